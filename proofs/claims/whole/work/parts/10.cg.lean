/-! the form of a term, by the reference -/
def TX {p : Nat} [NeZero p] (A B : Nat) (F G : Nat → Nat → Fin p) (r d : Nat) : Fin p := Nn A B F G (r % A + 1) (r / A) d
def TY {p : Nat} [NeZero p] (A B : Nat) (F G : Nat → Nat → Fin p) (r d : Nat) : Fin p := Nn A B F G (r % A) (r / A + 1) d
theorem dm_1 {A i j : Nat} (h : i < A) : (A * j + i) % A = i ∧ (A * j + i) / A = j := by
  refine ⟨by rw [Nat.mul_add_mod]; exact Nat.mod_eq_of_lt h, ?_⟩
  rw [Nat.add_comm, Nat.add_mul_div_left _ _ (by omega), Nat.div_eq_of_lt h, Nat.zero_add]
theorem PW_X {p : Nat} [NeZero p] {A B : Nat} {F G : Nat → Nat → Fin p} (j : Nat) : PW (A * B) (fun e d => Nn A B F G e j d) (TX A B F G) 1 := by
  intro e d hd
  have e1 := congrFun (mulX_N (f := F) (g := G) (A := A) (B := B) e j) d
  show _ = Nn A B F G (e + 1) j d
  rw [← e1, su_flat]
  unfold mulX
  refine su_cong (fun j' hj' => su_cong (fun i' hi' => ?_))
  unfold TX
  rw [(dm_1 hi').1, (dm_1 hi').2]
theorem PW_Y {p : Nat} [NeZero p] {A B : Nat} {F G : Nat → Nat → Fin p} (i : Nat) : PW (A * B) (fun e d => Nn A B F G i e d) (TY A B F G) 1 := by
  intro e d hd
  have e1 := congrFun (mulY_N (f := F) (g := G) (A := A) (B := B) i e) d
  show _ = Nn A B F G i (e + 1) d
  rw [← e1, su_flat]
  unfold mulY
  refine su_cong (fun j' hj' => su_cong (fun i' hi' => ?_))
  unfold TY
  rw [(dm_1 hi').1, (dm_1 hi').2]
theorem dm_2 {A B r : Nat} (hA : 1 ≤ A) (h : r < A * B) : r % A < A ∧ r / A < B ∧ A * (r / A) + r % A = r := ⟨Nat.mod_lt _ hA, Nat.div_lt_of_lt_mul h, Nat.div_add_mod r A⟩
theorem TBL.at {M : smM} {p A B : Nat} [NeZero p] {F G : Nat → Nat → Fin p} (h : TBL M A B F G) (hA : 1 ≤ A) {r d : Nat} (hr : r < A * B) (hd : d < 9) : M 1016 (9 * r + d) = nI (TX A B F G r d).val ∧ M 1017 (9 * r + d) = nI (TY A B F G r d).val := by
  obtain ⟨a, b, c⟩ := dm_2 hA hr
  have := h (r % A) (r / A) a b d hd
  rw [c] at this
  exact this
theorem m12_formOf {p A B u v i j : Nat} [NeZero p] {F G : Nat → Nat → Fin p} {M : smM} (hp : 2 ≤ p) (hp2 : p ≤ 97) (hA : 1 ≤ A) (hB : 1 ≤ B) (hA3 : A ≤ 3) (hB3 : B ≤ 3) (hS : SET2 M p A B u v F G) (hT : TBL M A B F G) (hi : i < 2147483648) (hj : j < 2147483648) : ∃ M', m_X12_formOf 1000 (nI i) (nI j) M = some M' ∧ (∀ d, d < 9 → M' 1020 d = nI (Nn A B F G i j d).val) ∧ ∀ r, r ≠ 1018 → r ≠ 1019 → r ≠ 1020 → r ≠ 1021 → M' r = M r := by
  have hD9 : A * B ≤ 9 := Nat.mul_le_mul hA3 hB3
  unfold m_X12_formOf
  let M0 : smM := smS (fil M 1020 (fun _ => 0) 9) 1020 0 1
  have Mo : ∀ r, r ≠ 1020 → M0 r = M r := fun r hr => (smS_o hr).trans (fil_o hr)
  have hz : ∀ (i j e d : Nat), A * B ≤ d → Nn A B F G i j d = 0 := fun i j e d hd => Nn_big hd _ i j (Nat.lt_succ_self _)
  have h10 : M0 1020 0 = 1 := smS_at
  have h1d : ∀ d, d < 9 → d ≠ 0 → M0 1020 d = 0 := fun d hd hne => (smS_ne hne).trans (fil_in hd)
  obtain ⟨M1, a1, a2, a3⟩ := m12_often (a := 1016) (n := i) (W := fun e d => Nn A B F G e 0 d) (T := TX A B F G) (M := M0) hp2 hD9 g_15.2.1 (Or.inl rfl) (by rw [Mo _ (by omega)]; exact hS.1) (by rw [Mo _ (by omega), hS.2.1, hS.2.2.1, nI_mulN]) (fun r d hr hd => by rw [Mo _ (by omega)]; exact (hT.at hA hr (by omega)).1) (PW_X 0) (fun e d hd => hz e 0 0 d hd) (fun d hd => by
    show M0 1020 d = nI (Nn A B F G 0 0 d).val
    rw [Nn_u (by omega) (by omega)]
    by_cases q : d = 0
    · subst q
      rw [h10, if_pos (by omega)]
      have : (1 : Fin p).val = 1 := by
        show 1 % p = 1
        exact Nat.mod_eq_of_lt (by omega)
      rw [this]; rfl
    · rw [h1d d hd q, if_neg (by omega)]; exact z_fin) hi
  obtain ⟨M2, b1, b2, b3⟩ := m12_often (a := 1017) (n := j) (W := fun e d => Nn A B F G i e d) (T := TY A B F G) (M := M1) hp2 hD9 g_15.2.2.1 (Or.inr rfl) (by rw [a3 _ (by omega) (by omega) (by omega) (by omega), Mo _ (by omega)]; exact hS.1) (by rw [a3 _ (by omega) (by omega) (by omega) (by omega), Mo _ (by omega), hS.2.1, hS.2.2.1, nI_mulN]) (fun r d hr hd => by rw [a3 _ (by omega) (by omega) (by omega) (by omega), Mo _ (by omega)]; exact (hT.at hA hr (by omega)).2) (PW_Y i) (fun e d hd => hz i e 0 d hd) a2 hj
  refine ⟨M2, ?_, b2, fun r h1 h2 h3 h4 => by rw [b3 r h1 h2 h3 h4, a3 r h1 h2 h3 h4, Mo r h3]⟩
  refine lp_cnt 9 (fun k => (nI k, fil M 1020 (fun _ => 0) k)) (by rw [fil_0]; rfl) (by omega) (fun k hk rc => ?_) (fun rc => ?_)
  · unfold m_X12_formOf_b2
    simp only []
    rw [if_neg (nI_9 hk), cl_nI (by omega), g_15.2.2.2.2.2.1, if_ck2 (by omega) (by omega), smB_e, nI_add_1]
    show rc (nI (k + 1), smS (fil M 1020 (fun _ => 0) k) 1020 k ((fun _ => (0 : Int32)) k)) = _
    rw [fil_s]
  · unfold m_X12_formOf_b2
    simp only []
    rw [if_pos nI_99, c0_cl, g_15.2.2.2.2.2.1, ck_0 (by omega), smB_e, show m_X12_appliesOften 1000 (1000 + 16) (nI i) (smS (fil M 1020 (fun _ => 0) 9) (1000 + 20) 0 1) = some M1 from a1, Option.bind_some, show m_X12_appliesOften 1000 (1000 + 17) (nI j) M1 = some M2 from b1, Option.bind_some]
