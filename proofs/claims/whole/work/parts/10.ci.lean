/-! what is left of a form, by the reference -/
def SP2 (M : smM) (p n : Nat) [NeZero p] (ρ σ : Nat → Nat → Fin p) (π : Nat → Nat) : Prop := n ≤ 9 ∧ M 1000 29 = nI n ∧ ∀ r, r < n → (∀ d, d < 9 → M 1024 (18 * r + d) = nI (ρ r d).val ∧ M 1024 (18 * r + 9 + d) = nI (σ r d).val) ∧ M 1025 r = nI (π r) ∧ π r < 9
theorem g_22 : smLn (1000 + 22) = 9 ∧ smLn (1000 + 23) = 9 ∧ smLn (1000 + 24) = 162 ∧ smLn (1000 + 25) = 9 ∧ smLn (1000 + 26) = 10 ∧ smLn (1000 + 27) = 10 ∧ smLn (1000 + 28) = 90 ∧ smLn (1000 + 29) = 20 ∧ smLn (1000 + 30) = 20 ∧ smLn (1000 + 31) = 9 := by decide +kernel
theorem ix18 (r d : Nat) : (18 : Int32) * nI r + nI d = nI (18 * r + d) := by rw [show (18 : Int32) = nI 18 from rfl, nI_mulN, nI_ad]
theorem ix189 (r d : Nat) : (18 : Int32) * nI r + (9 : Int32) + nI d = nI (18 * r + 9 + d) := by rw [show (18 : Int32) = nI 18 from rfl, show (9 : Int32) = nI 9 from rfl, nI_mulN, nI_ad, nI_ad]
theorem shr_neg {K : Type} [Lean.Grind.CommRing K] (a b c : K) : - a - b * c = - (a + b * c) := by grind
theorem m12_isLeft {p n : Nat} [NeZero p] {ρ σ : Nat → Nat → Fin p} {π : Nat → Nat} {v : Nat → Fin p} {M : smM} (hp : 2 ≤ p) (hp2 : p ≤ 97) (h0 : M 1000 0 = nI p) (h : SP2 M p n ρ σ π) (hv : ∀ d, d < 9 → M 1020 d = nI (v d).val) : ∃ (q : Int32) (M' : smM), m_X12_isLeft 1000 M = some (q, M') ∧ (∀ d, d < 9 → M' 1020 d = nI (red ρ π n v d).val ∧ M' 1031 d = nI (- shr ρ σ π n v d).val) ∧ (((∀ d, d < 9 → red ρ π n v d = 0) ∧ q = -4) ∨ ∃ k, k < 9 ∧ q = nI k ∧ red ρ π n v k ≠ 0) ∧ ∀ r, r ≠ 1020 → r ≠ 1031 → M' r = M r := by
  obtain ⟨hn9, hn, hr⟩ := h
  unfold m_X12_isLeft
  let Q : Option (Int32 × smM) → Prop := fun e => ∃ (q : Int32) (M' : smM), e = some (q, M') ∧ (∀ d, d < 9 → M' 1020 d = nI (red ρ π n v d).val ∧ M' 1031 d = nI (- shr ρ σ π n v d).val) ∧ (((∀ d, d < 9 → red ρ π n v d = 0) ∧ q = -4) ∨ ∃ k, k < 9 ∧ q = nI k ∧ red ρ π n v k ≠ 0) ∧ ∀ r, r ≠ 1020 → r ≠ 1031 → M' r = M r
  refine lp_pst 9 (fun k s => ∃ M', s = (nI k, M') ∧ (∀ d, d < k → M' 1031 d = 0) ∧ ∀ r, r ≠ 1031 → M' r = M r) Q ⟨M, rfl, fun d hd => by omega, fun _ _ => rfl⟩ (by omega) ?_
  rintro k s hk ⟨M1, rfl, z1, f1⟩ rc
  unfold m_X12_isLeft_b2
  simp only []
  by_cases e : k = 9
  · right
    subst e
    rw [if_pos nI_99]
    let I2 : Nat → smM → Prop := fun r M' => (∀ d, d < 9 → M' 1020 d = nI (red ρ π r v d).val ∧ M' 1031 d = nI (- shr ρ σ π r v d).val) ∧ ∀ r, r ≠ 1020 → r ≠ 1031 → M' r = M r
    refine lp_pst n (fun r s => ∃ M', s = (nI r, M') ∧ I2 r M') Q ⟨M1, rfl, fun d hd => ⟨by rw [f1 _ (by omega)]; exact hv d hd, ?_⟩, fun r h1 h2 => f1 r h2⟩ (by omega) ?_
    · rw [z1 d hd]
      show (0 : Int32) = nI (- (0 : Fin p)).val
      rw [r_n0]; exact z_fin
    rintro r s hrn ⟨M2, rfl, z2, f2⟩ rc2
    unfold m_X12_isLeft_b23
    simp only []
    rw [f2 1000 (by omega) (by omega), hn]
    by_cases er : r = n
    · right
      subst er
      rw [if_pos (Int32.le_refl _)]
      refine lp_pst 9 (fun k s => s = nI k ∧ ∀ d, d < k → red ρ π r v d = 0) Q ⟨rfl, fun d hd => by omega⟩ (by omega) ?_
      rintro k s hk ⟨rfl, z3⟩ rc3
      unfold m_X12_isLeft_b138
      by_cases ek : k = 9
      · right
        subst ek
        rw [if_pos nI_99]
        exact ⟨_, M2, rfl, z2, Or.inl ⟨z3, rfl⟩, f2⟩
      · rw [if_neg (nI_9 (by omega)), cl_nI (by omega), g_15.2.2.2.2.2.1, if_ck2 (by omega) (by omega), show M2 (1000 + 20) k = _ from (z2 k (by omega)).1]
        by_cases ez : red ρ π r v k = 0
        · left
          rw [if_pos ((fin_z hp2 _).mpr ez), nI_add_1]
          refine ⟨_, by omega, ⟨rfl, fun d hd => ?_⟩, rfl⟩
          by_cases q : d = k
          · rw [q]; exact ez
          · exact z3 d (by omega)
        · right
          rw [if_neg (fun w => ez ((fin_z hp2 _).mp w))]
          exact ⟨_, M2, rfl, z2, Or.inr ⟨k, by omega, rfl, ez⟩, f2⟩
    · have hrn : r < n := by omega
      obtain ⟨t1, t2, t3⟩ := hr r hrn
      rw [if_neg (fun w => by rw [nI_le_iff (by omega) (by omega)] at w; omega), cl_nI (n := r) (by omega), g_22.2.2.2.1, if_ck2 (by omega) (by omega), show M2 (1000 + 25) = M 1025 from f2 _ (by omega) (by omega), t2, cl_nI (n := π r) (by omega), g_15.2.2.2.2.2.1, if_ck2 (by omega) (by omega), show M2 (1000 + 20) (π r) = _ from (z2 (π r) t3).1]
      by_cases ez : red ρ π r v (π r) = 0
      · left
        refine ⟨(nI (r + 1), M2), hrn, ⟨M2, rfl, fun d hd => ?_, f2⟩, ?_⟩
        · have e1 : red ρ π (r + 1) v d = red ρ π r v d := by
            show red ρ π r v d - red ρ π r v (π r) * ρ r d = _
            rw [ez, r_0m]; grind
          have e2 : shr ρ σ π (r + 1) v d = shr ρ σ π r v d := by
            show shr ρ σ π r v d + red ρ π r v (π r) * σ r d = _
            rw [ez, r_0m]; grind
          rw [e1, e2]; exact z2 d hd
        · refine lp_cnt 0 (fun _ => ((0 : Int32), M2)) rfl (by omega) (fun k hk => absurd hk (by omega)) (fun rc3 => ?_)
          unfold m_X12_isLeft_b45
          simp only []
          rw [if_neg (by decide), if_pos ((fin_z hp2 _).mpr ez), nI_add_1]
      · refine lp_pst 9 (fun x s => ∃ M', s = (nI x, M') ∧ (∀ d, d < 9 → M' 1020 d = nI (if d < x then red ρ π (r + 1) v d else red ρ π r v d).val ∧ M' 1031 d = nI (if d < x then - shr ρ σ π (r + 1) v d else - shr ρ σ π r v d).val) ∧ ∀ r, r ≠ 1020 → r ≠ 1031 → M' r = M r) (fun e => (∃ s', r < n ∧ (∃ M', s' = (nI (r + 1), M') ∧ I2 (r + 1) M') ∧ e = rc2 s') ∨ Q e) ⟨M2, rfl, fun d hd => by rw [if_neg (by omega), if_neg (by omega)]; exact z2 d hd, f2⟩ (by omega) ?_
        rintro x s hx ⟨M3, rfl, z3, f3⟩ rc3
        unfold m_X12_isLeft_b45
        simp only []
        by_cases ex : x = 9
        · right
          left
          subst ex
          rw [if_pos nI_99, nI_add_1]
          refine ⟨_, hrn, ⟨M3, rfl, fun d hd => ?_, f3⟩, rfl⟩
          have := z3 d hd
          rw [if_pos hd, if_pos hd] at this
          exact this
        · left
          have a1 : M3 (1000 + 20) x = nI (red ρ π r v x).val := (z3 x (by omega)).1.trans (by rw [if_neg (by omega)])
          have a2 : M3 (1000 + 31) x = nI (- shr ρ σ π r v x).val := (z3 x (by omega)).2.trans (by rw [if_neg (by omega)])
          have a3 : M3 (1000 + 24) = M 1024 := f3 _ (by omega) (by omega)
          have a0 : M3 1000 = M 1000 := f3 _ (by omega) (by omega)
          rw [if_neg (nI_9 (by omega)), if_neg (fun w => ez ((fin_z hp2 _).mp w)), ix18, ix189, cl_nI (n := x) (by omega), cl_nI (n := 18 * r + x) (by omega), cl_nI (n := 18 * r + 9 + x) (by omega), g_15.2.2.2.2.2.1, g_22.2.2.1, g_22.2.2.2.2.2.2.2.2.2, if_ck2 (by omega) (by omega), if_ck2 (by omega) (by omega), a1, a3, (t1 x (by omega)).1, m12_sub _ _ _ hp hp2 (by rw [a0]; exact h0), Option.bind_some, if_ck2 (by omega) (by omega), smB_e, if_ck2 (by omega) (by omega), if_ck2 (by omega) (by omega), smS_o (show 1000 + 31 ≠ 1000 + 20 by omega), smS_o (show 1000 + 24 ≠ 1000 + 20 by omega), a2, a3, (t1 x (by omega)).2, m12_sub _ _ _ hp hp2 (by rw [smS_o (by omega), a0]; exact h0), Option.bind_some, if_ck2 (by omega) (by omega), smB_e, nI_add_1]
          refine ⟨_, by omega, ⟨_, rfl, fun d hd => ?_, fun r h1 h2 => ?_⟩, rfl⟩
          · by_cases q : d = x
            · subst q
              rw [if_pos (by omega), if_pos (by omega)]
              refine ⟨(congrFun (smS_o (show (1020 : Nat) ≠ 1000 + 31 by omega)) d).trans smS_at, smS_at.trans ?_⟩
              rw [shr_neg]; rfl
            · obtain ⟨w1, w2⟩ := z3 d hd
              have cond : (d < x + 1) = (d < x) := propext ⟨fun _ => by omega, fun _ => by omega⟩
              refine ⟨((congrFun (smS_o (show (1020 : Nat) ≠ 1000 + 31 by omega)) d).trans (smS_ne q)).trans (w1.trans ?_), (smS_ne q).trans (((congrFun (smS_o (show (1031 : Nat) ≠ 1000 + 20 by omega)) d)).trans (w2.trans ?_))⟩
              · simp only [cond]
              · simp only [cond]
          · exact (smS_o h2).trans ((smS_o h1).trans (f3 r h1 h2))
  · left
    rw [if_neg (nI_9 (by omega)), cl_nI (by omega), g_22.2.2.2.2.2.2.2.2.2, if_ck2 (by omega) (by omega), smB_e, nI_add_1]
    refine ⟨_, by omega, ⟨_, rfl, fun d hd => ?_, fun r hr => ?_⟩, rfl⟩
    · by_cases q : d = k
      · subst q; exact smS_at
      · exact (smS_ne q).trans (z1 d (by omega))
    · exact (smS_o hr).trans (f1 r hr)
