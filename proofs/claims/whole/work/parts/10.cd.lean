/-! the forms of the terms are laid, by the reference -/
theorem smS_fio {M : smM} {r o n k : Nat} {g : Nat → Int32} {v : Int32} (h : k < n) : smS (fio M r o g n) r (o + k) v = fio M r o (fun d => if d = k then v else g d) n := by
  funext a j
  unfold smS fio upd
  by_cases q : a = r
  · subst q
    simp only [if_true]
    by_cases h1 : j = o + k
    · subst h1
      rw [if_pos rfl, if_pos (by omega), if_pos (by omega)]
    · rw [if_neg h1]
      by_cases h2 : o ≤ j ∧ j < o + n
      · rw [if_pos h2, if_pos h2, if_neg (by omega)]
      · rw [if_neg h2, if_neg h2]
  · simp [q]
def aT {K : Type} [Lean.Grind.CommRing K] (P : Nat) (H : Nat → Nat → K) (φ : Nat → Nat → Nat → K) (a b d : Nat) : K := su (fun k => su (fun l => H k l * φ k l d) (P - k)) a + su (fun l => H a l * φ a l d) b
theorem aT_s {K : Type} [Lean.Grind.CommRing K] (P : Nat) (H : Nat → Nat → K) (φ : Nat → Nat → Nat → K) (a b d : Nat) : aT P H φ a (b + 1) d = aT P H φ a b d + H a b * φ a b d := by
  unfold aT
  simp only [su]
  grind
theorem aT_r {K : Type} [Lean.Grind.CommRing K] (P : Nat) (H : Nat → Nat → K) (φ : Nat → Nat → Nat → K) (a d : Nat) : aT P H φ (a + 1) 0 d = aT P H φ a (P - a) d := by
  unfold aT
  simp only [su]
  grind
theorem aT_0 {K : Type} [Lean.Grind.CommRing K] (P : Nat) (H : Nat → Nat → K) (φ : Nat → Nat → Nat → K) (d : Nat) : aT P H φ 0 0 d = 0 := by
  unfold aT
  simp only [su]
  grind
theorem aT_e {K : Type} [Lean.Grind.CommRing K] (P : Nat) (H : Nat → Nat → K) (φ : Nat → Nat → Nat → K) (d : Nat) : aT P H φ P 0 d = dd H P (fun k l => φ k l d) := by
  unfold aT dd
  simp only [su]
  grind
theorem sub_neg {K : Type} [Lean.Grind.CommRing K] (a b : K) : - a - b = - (a + b) := by grind
theorem m12_lay102 {p A B i j i0 j0 P s at' : Nat} [NeZero p] {H : Nat → Nat → Fin p} {Nx : Nat → Nat → Nat → Fin p} {M : smM} (hp : 2 ≤ p) (hp2 : p ≤ 97) (h0 : M 1000 0 = nI p) (h1 : M 1000 1 = nI A) (h2 : M 1000 2 = nI B) (hs : (s = 1 ∧ P = A ∧ i = i0 + A ∧ j = j0) ∨ (s = 0 ∧ P = B ∧ i = i0 ∧ j = j0 + B)) (hP : P ≤ 3) (hA3 : A ≤ 3) (hB3 : B ≤ 3) (hat : at' = 9 * (7 * i + j)) (hij : i + j < 7) (hH : ∀ k l, k + l < P → M 1001 ((if s = 0 then 9 else 0) + 3 * k + l) = nI (H k l).val) (hN : ∀ k l, k + l < P → ∀ d, d < 9 → M 1015 (9 * (7 * (i0 + k) + (j0 + l)) + d) = nI (Nx k l d).val) (hz : ∀ d, d < 9 → M 1015 (at' + d) = 0) (rc10 : (Int32 × smM) → Option smM) : smLp (fun rc q => m_X12_laysForm_b102 1000 (nI i) (nI j) (nI at') (nI s) (nI P) rc10 rc q.1 q.2) smF ((0 : Int32), M) = some (fio M 1015 at' (fun d => nI (- dd H P (fun k l => Nx k l d)).val) 9) := by
  let S : Nat → Nat → smM := fun a b => fio M 1015 at' (fun d => nI (- aT P H Nx a b d).val) 9
  have So : ∀ a b r, r ≠ 1015 → S a b r = M r := fun a b r hr => fio_o hr
  refine lp_cnt P (fun a => (nI a, S a 0)) ?_ (by omega) (fun a ha rc => ?_) (fun rc => ?_)
  · have : S 0 0 = M := fio_self (fun k hk => by
      rw [hz k hk, aT_0, r_n0]; exact z_fin)
    rw [this]; rfl
  · unfold m_X12_laysForm_b102
    simp only []
    rw [if_neg (by rw [nI_le_iff (by omega) (by omega)]; omega)]
    refine lp_cnt (P - a) (fun b => (nI b, S a b)) rfl (by omega) (fun b hb rc2 => ?_) (fun rc2 => ?_)
    · unfold m_X12_laysForm_b112
      simp only []
      have ab : a + b < P := by omega
      have eS : fio (S a b) 1015 at' (fun d => nI (- aT P H Nx a b d - H a b * Nx a b d).val) 9 = S a (b + 1) := by
        show fio (fio M 1015 at' _ 9) 1015 at' _ 9 = _
        rw [fio_fio]
        exact fio_congr (fun k hk => by rw [aT_s, sub_neg])
      rw [nI_ad, if_neg (by rw [nI_le_iff (by omega) (by omega)]; omega)]
      have fin : ∀ fr, fr = 9 * (7 * (i0 + a) + (j0 + b)) → m_X12_laysForm_j190 1000 (nI i) (nI j) (nI at') (nI s) (nI P) (nI a) (nI b) (nI (H a b).val) (S a b) rc10 rc rc2 (nI fr) = rc2 (nI (b + 1), S a (b + 1)) := fun fr hfr => by
        unfold m_X12_laysForm_j190
        rw [m12_lay195 (at' := at') (fr := fr) (v := fun d => - aT P H Nx a b d) (w := fun d => Nx a b d) hp hp2 ((congrFun (So a b 1000 (by omega)) 0).trans h0) (by omega) (by omega) (by omega) (fun d hd => fio_in hd) (fun d hd => by
          show fio M 1015 at' _ 9 1015 (fr + d) = _
          rw [fio_out (by omega), hfr]; exact hN a b ab d hd), eS]
      have e3 : ∀ (o : Nat), (nI o + (3 : Int32) * nI a) + nI b = nI (o + 3 * a + b) := fun o => by
        rw [show (3 : Int32) = nI 3 from rfl, nI_mulN, nI_ad, nI_ad]
      have e97 : ∀ x y : Nat, (9 : Int32) * ((7 : Int32) * nI x + nI y) = nI (9 * (7 * x + y)) := fun x y => by
        rw [show (9 : Int32) = nI 9 from rfl, show (7 : Int32) = nI 7 from rfl, nI_mulN, nI_ad, nI_mulN]
      rcases hs with ⟨rfl, rfl, rfl, rfl⟩ | ⟨rfl, rfl, rfl, rfl⟩
      · rw [if_neg (by decide)]
        unfold m_X12_laysForm_j137 m_X12_formAt
        rw [show (0 : Int32) + (3 : Int32) * nI a + nI b = nI (0 + 3 * a + b) from e3 0, cl_nI (by omega), show smLn (1000 + 1) = 18 from g_1001, if_ck2 (by omega) (by omega), if_neg (by decide), Option.bind_some, So a b 1000 (by omega), h1, nI_subN (by omega), nI_ad, nI_ad, e97, show S a b (1000 + 1) = M 1001 from So a b _ (by omega), show M 1001 (0 + 3 * a + b) = nI (H a b).val from hH a b ab, fin _ (by congr 3; omega)]
      · rw [if_pos n_00]
        unfold m_X12_laysForm_j137 m_X12_formAt
        rw [show (9 : Int32) + (3 : Int32) * nI a + nI b = nI (9 + 3 * a + b) from e3 9, cl_nI (by omega), show smLn (1000 + 1) = 18 from g_1001, if_ck2 (by omega) (by omega), if_pos n_00, Option.bind_some, So a b 1000 (by omega), h2, nI_subN (by omega), nI_ad, nI_ad, e97, show S a b (1000 + 1) = M 1001 from So a b _ (by omega), show M 1001 (9 + 3 * a + b) = nI (H a b).val from hH a b ab, fin _ (by congr 2; omega)]
    · unfold m_X12_laysForm_b112
      simp only []
      have : S a (P - a) = S (a + 1) 0 := fio_congr (fun k hk => by rw [aT_r])
      rw [nI_ad, if_pos (by rw [nI_le_iff (by omega) (by omega)]; omega), nI_add_1, this]
  · unfold m_X12_laysForm_b102
    simp only []
    have : S P 0 = fio M 1015 at' (fun d => nI (- dd H P (fun k l => Nx k l d)).val) 9 := fio_congr (fun k hk => by rw [aT_e])
    rw [if_pos (Int32.le_refl _), this]
theorem m12_laysForm {p A B u v i j : Nat} [NeZero p] {F G : Nat → Nat → Fin p} {M : smM} (hp : 2 ≤ p) (hp2 : p ≤ 97) (hA : 1 ≤ A) (hB : 1 ≤ B) (hA3 : A ≤ 3) (hB3 : B ≤ 3) (hS : SET2 M p A B u v F G) (hij : i + j < 7) (hlow : ∀ a b, a + b < i + j → ∀ d, d < 9 → M 1015 (9 * (7 * a + b) + d) = nI (Nn A B F G a b d).val) : m_X12_laysForm 1000 (nI i) (nI j) M = some (fio M 1015 (9 * (7 * i + j)) (fun d => nI (Nn A B F G i j d).val) 9) := by
  obtain ⟨h0, h1, h2, -, -, hF, hG⟩ := hS
  have hD9 : A * B ≤ 9 := Nat.mul_le_mul hA3 hB3
  unfold m_X12_laysForm m_X12_formAt
  rw [Option.bind_some, show (9 : Int32) * ((7 : Int32) * nI i + nI j) = nI (9 * (7 * i + j)) by rw [show (9 : Int32) = nI 9 from rfl, show (7 : Int32) = nI 7 from rfl, nI_mulN, nI_ad, nI_mulN]]
  generalize hat : 9 * (7 * i + j) = at'
  let M0 : smM := fio M 1015 at' (fun _ => 0) 9
  have Mo : ∀ r, r ≠ 1015 → M0 r = M r := fun r hr => fio_o hr
  refine lp_cnt 9 (fun k => (nI k, fio M 1015 at' (fun _ => 0) k)) (by rw [fio_0]; rfl) (by omega) (fun k hk rc => ?_) (fun rc => ?_)
  · unfold m_X12_laysForm_b10
    simp only []
    rw [if_neg (show ¬ (9 : Int32) ≤ nI k from fun w => by rw [show (9 : Int32) = nI 9 from rfl, nI_le_iff (by omega) (by omega)] at w; omega), nI_ad, cl_nI (by omega), g_15.1, if_ck2 (by omega) (by omega), smB_e, nI_add_1]
    show rc (nI (k + 1), smS (fio M 1015 at' (fun _ => 0) k) 1015 (at' + k) ((fun _ => (0 : Int32)) k)) = _
    rw [fio_s]
  · unfold m_X12_laysForm_b10
    simp only []
    rw [if_pos (show (9 : Int32) ≤ nI 9 from Int32.le_refl _)]
    show (if M0 1000 1 ≤ nI i then m_X12_laysForm_j66 1000 (nI i) (nI j) (nI at') M0 rc else if M0 1000 2 ≤ nI j then m_X12_laysForm_j66 1000 (nI i) (nI j) (nI at') M0 rc else if ((nI at' + (M0 1000 1 * nI j)) + nI i) < 0 ∨ smLn (1000 + 15) ≤ (((nI at' + (M0 1000 1 * nI j)) + nI i)).toNatClampNeg then none else smB (smS M0 (1000 + 15) (((nI at' + (M0 1000 1 * nI j)) + nI i)).toNatClampNeg (1 : Int32)) fun M64 => some M64) = _
    rw [Mo 1000 (by omega), h1, h2]
    have hz : ∀ d, d < 9 → M0 1015 (at' + d) = 0 := fun d hd => fio_in hd
    have cov : ∀ g h : Nat → Int32, (∀ k, k < 9 → g k = h k) → some (fio M0 1015 at' g 9) = some (fio M 1015 at' h 9) := fun g h e => by
      show some (fio (fio M 1015 at' _ 9) 1015 at' g 9) = _
      rw [fio_fio, fio_congr e]
    by_cases c1 : A ≤ i
    · rw [if_pos ((nI_le_iff (by omega) (by omega)).mpr c1)]
      unfold m_X12_laysForm_j66 m_X12_laysForm_j79 m_X12_laysForm_j97
      rw [Mo 1000 (by omega), h1, h2, if_neg (fun w => by rw [nI_lt_iff (by omega) (by omega)] at w; omega), if_neg (by decide), show (1 : Int32) = nI 1 from rfl]
      rw [m12_lay102 (s := 1) (P := A) (A := A) (B := B) (i := i) (j := j) (i0 := i - A) (j0 := j) (H := F) (Nx := fun k l d => Nn A B F G (i - A + k) (j + l) d) hp hp2 (by rw [Mo _ (by omega)]; exact h0) (by rw [Mo _ (by omega)]; exact h1) (by rw [Mo _ (by omega)]; exact h2) (Or.inl ⟨rfl, rfl, by omega, rfl⟩) hA3 hA3 hB3 hat.symm hij (fun k l hkl => by
        rw [Mo _ (by omega), if_neg (by decide), Nat.zero_add]; exact hF k l (by omega) (by omega)) (fun k l hkl d hd => by
        show fio M 1015 at' _ 9 1015 _ = _
        rw [fio_out (by omega)]; exact hlow _ _ (by omega) d hd) hz]
      exact cov _ _ (fun d hd => by rw [Nn_F c1])
    · rw [if_neg (fun w => c1 ((nI_le_iff (by omega) (by omega)).mp w))]
      by_cases c2 : B ≤ j
      · rw [if_pos ((nI_le_iff (by omega) (by omega)).mpr c2)]
        unfold m_X12_laysForm_j66 m_X12_laysForm_j79 m_X12_laysForm_j97
        rw [Mo 1000 (by omega), h1, h2, if_pos ((nI_lt_iff (by omega) (by omega)).mpr (by omega)), if_pos rfl]
        have e := m12_lay102 (s := 0) (P := B) (A := A) (B := B) (i := i) (j := j) (i0 := i) (j0 := j - B) (H := G) (Nx := fun k l d => Nn A B F G (i + k) (j - B + l) d) (M := M0) hp hp2 (by rw [Mo _ (by omega)]; exact h0) (by rw [Mo _ (by omega)]; exact h1) (by rw [Mo _ (by omega)]; exact h2) (Or.inr ⟨rfl, rfl, rfl, by omega⟩) hB3 hA3 hB3 hat.symm hij (fun k l hkl => by
          rw [Mo _ (by omega), if_pos rfl]; exact hG k l (by omega) (by omega)) (fun k l hkl d hd => by
          show fio M 1015 at' _ 9 1015 _ = _
          rw [fio_out (by omega)]; exact hlow _ _ (by omega) d hd) hz rc
        refine Eq.trans e ?_
        exact cov _ _ (fun d hd => by rw [Nn_G0 (by omega) c2])
      · rw [if_neg (fun w => c2 ((nI_le_iff (by omega) (by omega)).mp w))]
        have hpl : A * j + i < A * B := by
          have := Nat.mul_le_mul_left A (show j + 1 ≤ B by omega)
          rw [Nat.mul_add, Nat.mul_one] at this
          omega
        rw [nI_mulN, nI_ad, nI_ad, cl_nI (by omega), g_15.1, if_ck2 (by omega) (by omega), smB_e, Nat.add_assoc, show (1000 + 15 : Nat) = 1015 from rfl]
        show some (smS (fio M 1015 at' (fun _ => 0) 9) 1015 (at' + (A * j + i)) 1) = _
        rw [smS_fio (by omega), fio_congr (fun d hd => ?_)]
        rw [Nn_u (by omega) (by omega)]
        by_cases q : d = A * j + i
        · rw [if_pos q, if_pos q]
          have : (1 : Fin p).val = 1 := by
            show 1 % p = 1
            exact Nat.mod_eq_of_lt (by omega)
          rw [this]; rfl
        · rw [if_neg q, if_neg q]; exact z_fin
