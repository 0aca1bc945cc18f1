/-! all forms, and what x and y do -/
theorem smS_fio_o {M : smM} {r r' o n k : Nat} {g : Nat → Int32} {v : Int32} (h : r ≠ r') : smS (fio M r' o g n) r k v = fio (smS M r k v) r' o g n := by
  funext a j
  unfold smS fio
  by_cases q : a = r
  · subst q
    simp [h]
  · by_cases q2 : a = r'
    · subst q2
      simp [q]
    · simp [q, q2]
def LAID (M : smM) {p : Nat} [NeZero p] (A B : Nat) (F G : Nat → Nat → Fin p) (h i : Nat) : Prop := ∀ a b, (a + b < h ∨ (a + b = h ∧ a < i)) → ∀ d, d < 9 → M 1015 (9 * (7 * a + b) + d) = nI (Nn A B F G a b d).val
def TBL (M : smM) {p : Nat} [NeZero p] (A B : Nat) (F G : Nat → Nat → Fin p) : Prop := ∀ i j, i < A → j < B → ∀ d, d < 9 → M 1016 (9 * (A * j + i) + d) = nI (Nn A B F G (i + 1) j d).val ∧ M 1017 (9 * (A * j + i) + d) = nI (Nn A B F G i (j + 1) d).val
theorem m12_lay70 {o x y z : Nat} {x1 x2 : Nat} {gX gY : Nat → Int32} {M : smM} (ho : o + 9 ≤ 81) (hx : 9 * (7 * (x2 + 1) + x1) = x) (hy : 9 * (7 * x2 + (x1 + 1)) = y) (hx4 : x + 9 ≤ 441) (hy4 : y + 9 ≤ 441) (h1 : ∀ d, d < 9 → M 1015 (x + d) = gX d) (h2 : ∀ d, d < 9 → M 1015 (y + d) = gY d) (rc2 rc37 rc47 : (Int32 × smM) → Option smM) : smLp (fun rc q => m_X12_laysForms_b70 1000 (nI x1) (nI x2) (nI o) rc2 rc37 rc47 rc q.1 q.2) smF ((0 : Int32), M) = rc47 (nI (x2 + 1), fio (fio M 1016 o gX 9) 1017 o gY 9) := by
  have e97 : ∀ x y : Nat, (9 : Int32) * ((7 : Int32) * nI x + nI y) = nI (9 * (7 * x + y)) := fun x y => by
    rw [show (9 : Int32) = nI 9 from rfl, show (7 : Int32) = nI 7 from rfl, nI_mulN, nI_ad, nI_mulN]
  refine lp_cnt 9 (fun k => (nI k, fio (fio M 1016 o gX k) 1017 o gY k)) (by rw [fio_0, fio_0]; rfl) (by omega) (fun k hk rc => ?_) (fun rc => ?_)
  · unfold m_X12_laysForms_b70 m_X12_formAt
    simp only []
    rw [if_neg (show ¬ (9 : Int32) ≤ nI k from fun w => by rw [show (9 : Int32) = nI 9 from rfl, nI_le_iff (by omega) (by omega)] at w; omega), nI_add_1, nI_add_1, e97, e97, Option.bind_some, hx, hy, nI_ad, nI_ad, cl_nI (n := x + k) (by omega), cl_nI (n := o + k) (by omega), g_15.1, g_15.2.1, g_15.2.2.1, if_ck2 (by omega) (by omega), if_ck2 (by omega) (by omega), smB_e, Option.bind_some, nI_ad, cl_nI (n := y + k) (by omega), if_ck2 (by omega) (by omega), if_ck2 (by omega) (by omega), smB_e, nI_add_1]
    rw [show (1000 + 15 : Nat) = 1015 from rfl, show (1000 + 16 : Nat) = 1016 from rfl, show (1000 + 17 : Nat) = 1017 from rfl, smS_o (show (1015 : Nat) ≠ 1016 by omega), fio_o (show (1015 : Nat) ≠ 1017 by omega), fio_o (show (1015 : Nat) ≠ 1016 by omega), h1 k hk, h2 k hk, smS_fio_o (show (1016 : Nat) ≠ 1017 by omega), fio_s, fio_s]
  · unfold m_X12_laysForms_b70
    simp only []
    rw [if_pos (show (9 : Int32) ≤ nI 9 from Int32.le_refl _), nI_add_1]
theorem m12_laysForms {p A B u v : Nat} [NeZero p] {F G : Nat → Nat → Fin p} {M : smM} (hp : 2 ≤ p) (hp2 : p ≤ 97) (hA : 1 ≤ A) (hB : 1 ≤ B) (hA3 : A ≤ 3) (hB3 : B ≤ 3) (hS : SET2 M p A B u v F G) : ∃ M', m_X12_laysForms 1000 M = some M' ∧ TBL M' A B F G ∧ ∀ r, r ≠ 1015 → r ≠ 1016 → r ≠ 1017 → M' r = M r := by
  have hD9 : A * B ≤ 9 := Nat.mul_le_mul hA3 hB3
  unfold m_X12_laysForms
  refine lp_pst 7 (fun h s => ∃ M', s = (nI h, M') ∧ LAID M' A B F G h 0 ∧ ∀ r, r ≠ 1015 → M' r = M r) (fun e => ∃ M', e = some M' ∧ TBL M' A B F G ∧ ∀ r, r ≠ 1015 → r ≠ 1016 → r ≠ 1017 → M' r = M r) ⟨M, rfl, fun a b q => by omega, fun _ _ => rfl⟩ (by omega) ?_
  rintro h s hh ⟨M1, rfl, l1, f1⟩ rc
  unfold m_X12_laysForms_b2
  simp only []
  by_cases e : h = 7
  · subst e
    right
    rw [if_pos (show (7 : Int32) ≤ nI 7 from Int32.le_refl _)]
    let TB : Nat → Nat → smM → Prop := fun j i M' => (∀ i' j', i' < A → j' < B → (j' < j ∨ (j' = j ∧ i' < i)) → ∀ d, d < 9 → M' 1016 (9 * (A * j' + i') + d) = nI (Nn A B F G (i' + 1) j' d).val ∧ M' 1017 (9 * (A * j' + i') + d) = nI (Nn A B F G i' (j' + 1) d).val) ∧ ∀ r, r ≠ 1016 → r ≠ 1017 → M' r = M1 r
    refine lp_pst B (fun j s => ∃ M', s = (nI j, M') ∧ TB j 0 M') (fun e => ∃ M', e = some M' ∧ TBL M' A B F G ∧ ∀ r, r ≠ 1015 → r ≠ 1016 → r ≠ 1017 → M' r = M r) ⟨M1, rfl, fun i' j' _ _ q => by omega, fun _ _ _ => rfl⟩ (by omega) ?_
    rintro j s hj ⟨M2, rfl, t1, t2⟩ rc2
    unfold m_X12_laysForms_b37
    simp only []
    rw [t2 1000 (by omega) (by omega), f1 1000 (by omega), hS.2.2.1]
    by_cases ej : j = B
    · right
      subst ej
      rw [if_pos (Int32.le_refl _)]
      exact ⟨M2, rfl, fun i' j' hi hj d hd => t1 i' j' hi hj (Or.inl hj) d hd, fun r h1 h2 h3 => (t2 r h2 h3).trans (f1 r h1)⟩
    · rw [if_neg (fun w => by rw [nI_le_iff (by omega) (by omega)] at w; omega)]
      refine lp_pst A (fun i s => ∃ M', s = (nI i, M') ∧ TB j i M') (fun e => (∃ s', j < B ∧ (∃ M', s' = (nI (j + 1), M') ∧ TB (j + 1) 0 M') ∧ e = rc2 s') ∨ ∃ M', e = some M' ∧ TBL M' A B F G ∧ ∀ r, r ≠ 1015 → r ≠ 1016 → r ≠ 1017 → M' r = M r) ⟨M2, rfl, t1, t2⟩ (by omega) ?_
      rintro i s hi ⟨M3, rfl, t3, t4⟩ rc3
      unfold m_X12_laysForms_b47
      simp only []
      rw [t4 1000 (by omega) (by omega), f1 1000 (by omega), hS.2.1]
      by_cases ei : i = A
      · right
        left
        subst ei
        rw [if_pos (Int32.le_refl _), nI_add_1]
        exact ⟨_, by omega, ⟨M3, rfl, fun i' j' hi' hj' q d hd => t3 i' j' hi' hj' (by omega) d hd, t4⟩, rfl⟩
      · left
        rw [if_neg (fun w => by rw [nI_le_iff (by omega) (by omega)] at w; omega), nI_mulN, nI_ad, show (9 : Int32) = nI 9 from rfl, nI_mulN]
        have hpl : A * j + i < A * B := by
          have := Nat.mul_le_mul_left A (show j + 1 ≤ B by omega)
          rw [Nat.mul_add, Nat.mul_one] at this
          omega
        have h15 : M3 1015 = M1 1015 := t4 1015 (by omega) (by omega)
        rw [m12_lay70 (o := 9 * (A * j + i)) (x1 := j) (x2 := i) (z := 0) (gX := fun d => nI (Nn A B F G (i + 1) j d).val) (gY := fun d => nI (Nn A B F G i (j + 1) d).val) (by omega) rfl rfl (by omega) (by omega) (fun d hd => by rw [h15]; exact l1 (i + 1) j (by omega) d hd) (fun d hd => by rw [h15]; exact l1 i (j + 1) (by omega) d hd)]
        refine ⟨_, by omega, ⟨_, rfl, fun i' j' hi' hj' q d hd => ?_, fun r h1 h2 => ?_⟩, rfl⟩
        · by_cases q2 : j' = j ∧ i' = i
          · obtain ⟨rfl, rfl⟩ := q2
            rw [fio_o (show (1016 : Nat) ≠ 1017 by omega), fio_in hd, fio_in hd]
            exact ⟨rfl, rfl⟩
          · have hne : A * j' + i' ≠ A * j + i := fun w => by
              obtain ⟨w1, w2⟩ := place_inj hi' (by omega) w
              exact q2 ⟨w2, w1⟩
            rw [fio_o (show (1016 : Nat) ≠ 1017 by omega), fio_out (by omega), fio_out (by omega), fio_o (show (1017 : Nat) ≠ 1016 by omega)]
            exact t3 i' j' hi' hj' (by omega) d hd
        · rw [fio_o h2, fio_o h1]; exact t4 r h1 h2
  · rw [if_neg (show ¬ (7 : Int32) ≤ nI h from fun w => by rw [show (7 : Int32) = nI 7 from rfl, nI_le_iff (by omega) (by omega)] at w; omega)]
    refine lp_pst (h + 1) (fun i s => ∃ M', s = (nI i, M') ∧ LAID M' A B F G h i ∧ ∀ r, r ≠ 1015 → M' r = M r) (fun e => (∃ s', h < 7 ∧ (∃ M', s' = (nI (h + 1), M') ∧ LAID M' A B F G (h + 1) 0 ∧ ∀ r, r ≠ 1015 → M' r = M r) ∧ e = rc s') ∨ ∃ M', e = some M' ∧ TBL M' A B F G ∧ ∀ r, r ≠ 1015 → r ≠ 1016 → r ≠ 1017 → M' r = M r) ⟨M1, rfl, l1, f1⟩ (by omega) ?_
    rintro i s hi ⟨M2, rfl, l2, f2⟩ rc2
    unfold m_X12_laysForms_b10
    simp only []
    by_cases ei : i = h + 1
    · right
      left
      subst ei
      rw [if_pos ((nI_lt_iff (by omega) (by omega)).mpr (by omega)), nI_add_1]
      exact ⟨_, by omega, ⟨M2, rfl, fun a b q d hd => l2 a b (by omega) d hd, f2⟩, rfl⟩
    · left
      rw [if_neg (fun w => by rw [nI_lt_iff (by omega) (by omega)] at w; omega), nI_subN (by omega), m12_laysForm hp hp2 hA hB hA3 hB3 (hS.fr (fun k _ => by rw [f2 1000 (by omega)]) (f2 1001 (by omega))) (show i + (h - i) < 7 by omega) (fun a b q d hd => l2 a b (by omega) d hd), Option.bind_some, nI_add_1]
      refine ⟨_, by omega, ⟨_, rfl, fun a b q d hd => ?_, fun r hr => ?_⟩, rfl⟩
      · by_cases q2 : a = i ∧ b = h - i
        · obtain ⟨rfl, rfl⟩ := q2
          rw [fio_in hd]
        · rw [fio_out (by omega)]
          exact l2 a b (by omega) d hd
      · rw [fio_o hr]; exact f2 r hr
