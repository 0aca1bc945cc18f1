/-! the coefficients -/
theorem l64 {n : Nat} (h : n < 2147483648) : (nI n).toInt64 = lN n := nI_l h
theorem m_coef {M1 M2 : smM} {p A B u v : Nat} [NeZero p] {F G : Nat → Nat → Fin p} (hpar : PARAM p A B u v) (h1 : SET M1 1 p A B u v F G) (h2 : SET2 M2 p A B u v F G) (x i j : Int32) : (m_X7_hasCoefficient 1 x i j M1 = some 0 ∧ m_X12_isCoefficient 1000 x i j M2 = some 0) ∨ ∃ o a b, o < 2 ∧ x = nI o ∧ i = nI a ∧ j = nI b ∧ a + b < (if o = 0 then A else B) ∧ m_X7_hasCoefficient 1 x i j M1 = some 1 ∧ m_X12_isCoefficient 1000 x i j M2 = some 1 := by
  obtain ⟨-, ⟨hA, hA3⟩, ⟨hB, hB3⟩, -⟩ := hpar
  unfold m_X7_hasCoefficient m_X12_isCoefficient
  rw [m_isUnknown, show (0 : Int64) = (0 : Int32).toInt64 from rfl, show (1 : Int64) = (1 : Int32).toInt64 from rfl, m12_in, Option.bind_some, Option.bind_some]
  by_cases c : (0 : Int32) ≤ x ∧ x ≤ 1
  · rw [b01_t c]
    simp only [if_1]
    obtain ⟨o, ho, rfl⟩ := rngI (h := 1) (by omega) c.1 c.2
    by_cases ci : i < 0
    · left; simp only [if_pos ci]; exact ⟨trivial, trivial⟩
    · by_cases cj : j < 0
      · left; simp only [if_neg ci, if_pos cj]; exact ⟨trivial, trivial⟩
      · simp only [if_neg ci, if_neg cj]
        obtain ⟨a, ha, rfl⟩ := nat_of (x := i) (by rw [Int32.lt_iff_toInt_lt] at ci; rw [Int32.le_iff_toInt_le]; omega)
        obtain ⟨b, hb, rfl⟩ := nat_of (x := j) (by rw [Int32.lt_iff_toInt_lt] at cj; rw [Int32.le_iff_toInt_le]; omega)
        have key : ∀ P : Nat, 1 ≤ P → P ≤ 3 → ((if nI P ≤ nI a then some (0 : Int32) else if nI P - nI a ≤ nI b then some 0 else some 1) = if a + b < P then some (1 : Int32) else some 0) ∧ (if (0 : Int32) ≤ lg_cmp ((nI a).toInt64 + (nI b).toInt64) (nI P).toInt64 then some (0 : Int32) else some 1) = if a + b < P then some (1 : Int32) else some 0 := by
          intro P hP hP3
          constructor
          · by_cases d : P ≤ a
            · rw [if_pos ((nI_le_iff (by omega) (by omega)).mpr d), if_neg (by omega)]
            · rw [if_neg (fun q => d ((nI_le_iff (by omega) (by omega)).mp q))]
              have e : nI P - nI a = nI (P - a) := by
                rw [jI_nI, jI_nI, jI_nI, jI_sub]; congr 1; omega
              rw [e]
              by_cases f : P - a ≤ b
              · rw [if_pos ((nI_le_iff (by omega) (by omega)).mpr f), if_neg (by omega)]
              · rw [if_neg (fun q => f ((nI_le_iff (by omega) (by omega)).mp q)), if_pos (by omega)]
          · rw [l64 ha, l64 hb, l64 (by omega), lN_add]
            have := (lg_lN (a := a + b) (b := P) (by omega) (by omega)).2
            by_cases f : P ≤ a + b
            · rw [if_pos (this.mpr f), if_neg (by omega)]
            · rw [if_neg (fun q => f (this.mp q)), if_pos (by omega)]
        unfold m_X7_power
        rw [h1.2.1, h1.2.2.1, h2.2.1, h2.2.2.1]
        by_cases o0 : o = 0
        · subst o0
          simp only [if_pos n_00, Option.bind_some]
          rw [(key A hA hA3).1, (key A hA hA3).2]
          by_cases f : a + b < A
          · right
            exact ⟨0, a, b, by omega, rfl, rfl, rfl, by rw [if_pos rfl]; exact f, by rw [if_pos f], by rw [if_pos f]⟩
          · left; rw [if_neg f]; exact ⟨rfl, rfl⟩
        · have o1 : o = 1 := by omega
          subst o1
          simp only [if_neg n_10, Option.bind_some]
          rw [(key B hB hB3).1, (key B hB hB3).2]
          by_cases f : a + b < B
          · right
            exact ⟨1, a, b, by omega, rfl, rfl, rfl, by rw [if_neg (by omega)]; exact f, by rw [if_pos f], by rw [if_pos f]⟩
          · left; rw [if_neg f]; exact ⟨rfl, rfl⟩
  · left; rw [b01_f c]; exact ⟨rfl, rfl⟩
theorem m_coef1 {M1 M2 : smM} {p A B u v : Nat} [NeZero p] {F G : Nat → Nat → Fin p} (hpar : PARAM p A B u v) (h1 : SET M1 1 p A B u v F G) (h2 : SET2 M2 p A B u v F G) {o a b : Nat} (ho : o < 2) (hab : a + b < (if o = 0 then A else B)) (hh : m_X7_hasCoefficient 1 (nI o) (nI a) (nI b) M1 = some 1) : m_X7_coefficient 1 (nI o) (nI a) (nI b) M1 = some (nI ((if o = 0 then F else G) a b).val) ∧ (∀ c, m_X7_change 1 (nI o) (nI a) (nI b) c M1 = some (smS M1 (2 + o) (3 * b + a) c)) ∧ (9 : Int32) * nI o + 3 * nI a + nI b = nI (9 * o + 3 * a + b) ∧ M2 1001 (9 * o + 3 * a + b) = nI ((if o = 0 then F else G) a b).val ∧ a < 3 ∧ b < 3 := by
  obtain ⟨-, ⟨hA, hA3⟩, ⟨hB, hB3⟩, -⟩ := hpar
  have hab3 : a + b < 3 := by
    by_cases c : o = 0
    · rw [if_pos c] at hab; omega
    · rw [if_neg c] at hab; omega
  have e : (3 : Int32) * nI b + nI a = nI (3 * b + a) := by
    rw [show (3 : Int32) = nI 3 from rfl, jI_nI, jI_nI, jI_nI, jI_nI, jI_mul, jI_add]; congr 1
  have e2 : (9 : Int32) * nI o + 3 * nI a + nI b = nI (9 * o + 3 * a + b) := by
    rw [show (3 : Int32) = nI 3 from rfl, show (9 : Int32) = nI 9 from rfl, jI_nI, jI_nI, jI_nI, jI_nI, jI_nI, jI_nI, jI_mul, jI_mul, jI_add, jI_add]; congr 1
  have ck : ∀ {ρ : Type} (T : Option ρ), (if nI (3 * b + a) < 0 ∨ 9 ≤ 3 * b + a then none else T) = T := fun T => if_ck2 (by omega) (by omega) T
  refine ⟨?_, fun c => ?_, e2, ?_, by omega, by omega⟩
  · unfold m_X7_coefficient m_X7_coefficients
    rw [hh, Option.bind_some]
    simp only [if_1]
    rw [e, cl_nI (n := 3 * b + a) (by omega)]
    rcases (show o = 0 ∨ o = 1 by omega) with rfl | rfl
    · simp only [if_pos n_00, Option.bind_some, Nat.reduceAdd, g_2, ck, if_true]
      rw [h1.2.2.2.2.2.1 a b (by omega) (by omega)]
    · simp only [if_neg n_10, Option.bind_some, Nat.reduceAdd, g_3, ck, Nat.reduceEqDiff, if_false]
      rw [h1.2.2.2.2.2.2 a b (by omega) (by omega)]
  · unfold m_X7_change m_X7_coefficients
    rw [hh, Option.bind_some]
    simp only [if_1]
    rw [e, cl_nI (n := 3 * b + a) (by omega)]
    rcases (show o = 0 ∨ o = 1 by omega) with rfl | rfl
    · simp only [if_pos n_00, Option.bind_some, Nat.reduceAdd, g_2, ck, smB]
    · simp only [if_neg n_10, Option.bind_some, Nat.reduceAdd, g_3, ck, smB]
  · rcases (show o = 0 ∨ o = 1 by omega) with rfl | rfl
    · have := h2.2.2.2.2.2.1 a b (by omega) (by omega)
      rw [if_pos rfl, ← this]; congr 1; omega
    · have := h2.2.2.2.2.2.2 a b (by omega) (by omega)
      rw [if_neg (by omega), ← this]
theorem op_get : Op_get Rel := by
  intro M1 M2 h x i j
  have hr := h
  obtain ⟨p, ne, A, B, u, v, F, G, hpar, hs1, hs2, hca, hsl, him⟩ := h
  unfold m_X11_get m_X12_get
  simp only [Nat.zero_add, Nat.reduceAdd, g_1001]
  rcases m_coef hpar hs1 hs2 x i j with ⟨e1, e2⟩ | ⟨o, a, b, ho, rfl, rfl, rfl, hab, e1, e2⟩
  · rw [e1, e2, Option.bind_some, Option.bind_some]
    exact ⟨_, rfl, rfl, hr⟩
  · obtain ⟨f1, -, f3, f4, f5, f6⟩ := m_coef1 hpar hs1 hs2 ho hab e1
    rw [e1, e2, Option.bind_some, Option.bind_some]
    simp only [if_1]
    rw [f1, f3, cl_nI (n := 9 * o + 3 * a + b) (by omega), if_ck2 (by omega) (by omega), f4]
    exact ⟨_, rfl, rfl, hr⟩
theorem op_put : Op_put Rel := by
  intro M1 M2 h x i j c
  have hr := h
  obtain ⟨p, ne, A, B, u, v, F, G, hpar, hs1, hs2, hca, hsl, him⟩ := h
  have hp := (Pr_rng p hpar.1).1
  have hp2 := (Pr_rng p hpar.1).2
  unfold m_X11_put m_X12_put m_X11_isNumber m_X2_forget
  simp only [Nat.zero_add, Nat.reduceAdd, g_1001]
  rcases m_coef hpar hs1 hs2 x i j with ⟨e1, e2⟩ | ⟨o, a, b, ho, rfl, rfl, rfl, hab, e1, e2⟩
  · rw [e1, e2, Option.bind_some, Option.bind_some]
    exact ⟨_, _, _, rfl, rfl, hr⟩
  · obtain ⟨f1, f2, f3, f4, f5, f6⟩ := m_coef1 hpar hs1 hs2 ho hab e1
    rw [e1, e2, Option.bind_some, Option.bind_some]
    simp only [if_1]
    have ep : nI p - 1 = nI (p - 1) := by
      rw [show (1 : Int32) = nI 1 from rfl, jI_nI, jI_nI, jI_nI, jI_sub]; congr 1; omega
    rw [hs1.1, hs2.1, ep, m_isWithin, show (0 : Int64) = (0 : Int32).toInt64 from rfl, m12_in, Option.bind_some, Option.bind_some, Option.bind_some, smZ_b01]
    by_cases cc : (0 : Int32) ≤ c ∧ c ≤ nI (p - 1)
    · obtain ⟨d, hd, rfl⟩ := rngI (h := p - 1) (by omega) cc.1 cc.2
      rw [b01_t cc]
      simp only [if_1]
      have ck : ∀ {ρ : Type} (T : Option ρ), (if nI (9 * o + 3 * a + b) < 0 ∨ 18 ≤ 9 * o + 3 * a + b then none else T) = T := fun T => if_ck2 (by omega) (by omega) T
      rw [f1, f2, f3, cl_nI (n := 9 * o + 3 * a + b) (by omega)]
      simp only [Option.bind_some, smB, ck]
      rw [f4]
      have hdp : d < p := by omega
      refine ⟨_, _, _, rfl, rfl, p, ne, A, B, u, v, (fun k l => if o = 0 ∧ k = a ∧ l = b then ⟨d, hdp⟩ else F k l), (fun k l => if o = 1 ∧ k = a ∧ l = b then ⟨d, hdp⟩ else G k l), hpar, ?_, ?_, CA.forget, fun s hs => (hsl s hs).fr (fun r h1 h2 => by rw [smS_o (by omega), smS_o (by omega)]) (SAME2.of s (fun r h1 h2 => by rw [smS_o (by omega)])), fun i hi => (him i hi).fr (by rw [smS_o (by omega), smS_o (by omega)]) (fun r h1 h2 => by rw [smS_o (by omega), smS_o (by omega)]) (by rw [smS_o (by omega)]) (fun k _ _ => by rw [smS_o (by omega)])⟩
      · obtain ⟨q0, q1, q2, q3, q4, q5, q6⟩ := hs1
        refine ⟨?_, ?_, ?_, ?_, ?_, fun k l hk hl => ?_, fun k l hk hl => ?_⟩
        · rw [smS_o (by omega), smS_o (by omega)]; exact q0
        · rw [smS_o (by omega), smS_o (by omega)]; exact q1
        · rw [smS_o (by omega), smS_o (by omega)]; exact q2
        · rw [smS_o (by omega), smS_o (by omega)]; exact q3
        · rw [smS_o (by omega), smS_o (by omega)]; exact q4
        · rw [smS_o (by omega)]
          dsimp only
          by_cases g : o = 0 ∧ k = a ∧ l = b
          · rw [if_pos g]
            obtain ⟨rfl, rfl, rfl⟩ := g
            exact smS_at
          · rw [if_neg g, smS_get (by omega)]; exact q5 k l hk hl
        · rw [smS_o (by omega)]
          dsimp only
          by_cases g : o = 1 ∧ k = a ∧ l = b
          · rw [if_pos g]
            obtain ⟨rfl, rfl, rfl⟩ := g
            exact smS_at
          · rw [if_neg g, smS_get (by omega)]; exact q6 k l hk hl
      · obtain ⟨q0, q1, q2, q3, q4, q5, q6⟩ := hs2
        refine ⟨?_, ?_, ?_, ?_, ?_, fun k l hk hl => ?_, fun k l hk hl => ?_⟩
        · rw [smS_o (by omega)]; exact q0
        · rw [smS_o (by omega)]; exact q1
        · rw [smS_o (by omega)]; exact q2
        · rw [smS_o (by omega)]; exact q3
        · rw [smS_o (by omega)]; exact q4
        · dsimp only
          by_cases g : o = 0 ∧ k = a ∧ l = b
          · rw [if_pos g]
            obtain ⟨rfl, rfl, rfl⟩ := g
            rw [show 3 * k + l = 9 * 0 + 3 * k + l by omega]
            exact smS_at
          · rw [if_neg g, smS_get (by omega)]; exact q5 k l hk hl
        · dsimp only
          by_cases g : o = 1 ∧ k = a ∧ l = b
          · rw [if_pos g]
            obtain ⟨rfl, rfl, rfl⟩ := g
            exact smS_at
          · rw [if_neg g, smS_get (by omega)]; exact q6 k l hk hl
    · rw [b01_f cc]
      exact ⟨_, _, _, rfl, rfl, hr⟩
theorem z_fin {p : Nat} [NeZero p] : (0 : Int32) = nI ((0 : Fin p).val) := by rw [show (0 : Fin p).val = 0 by simp]; rfl
theorem m12_sysl (M : smM) (a b : Int32) (h1 : M 1000 1 = a) (h2 : M 1000 2 = b) : smLp (fun rc q => m_X12_system_b38 1000 rc q.1 q.2) smF ((0 : Int32), M) = some (a * b, fil M 1001 (fun _ => 0) 18) := by
  refine lp_cnt 18 (fun k => (nI k, fil M 1001 (fun _ => 0) k)) (by rw [fil_0]; rfl) (by omega) (fun k hk rc => ?_) (fun rc => ?_)
  · show m_X12_system_b38 1000 rc (nI k) (fil M 1001 (fun _ => 0) k) = rc (nI (k + 1), fil M 1001 (fun _ => 0) (k + 1))
    unfold m_X12_system_b38
    rw [if_neg (fun q => by rw [show (18 : Int32) = nI 18 from rfl, nI_le_iff (by omega) (by omega)] at q; omega), cl_nI (n := k) (by omega)]
    simp only [Nat.reduceAdd, g_1001, smB]
    rw [if_ck2 (by omega) (by omega), nI_add_1, fil_s]
  · show m_X12_system_b38 1000 rc (nI 18) (fil M 1001 (fun _ => 0) 18) = some (a * b, fil M 1001 (fun _ => 0) 18)
    unfold m_X12_system_b38 m_X12_dimension
    rw [if_pos (by decide), Option.bind_some, fil_o (by omega), h1, h2]
theorem smB_e {α ρ : Type} (a : α) (f : α → Option ρ) : smB a f = f a := rfl
theorem m12_system {a b : Nat} {M : smM} (ha : (1 : Int32) ≤ nI a ∧ nI a ≤ 3) (hb : (1 : Int32) ≤ nI b ∧ nI b ≤ 3) : m_X12_system 1000 (nI a) (nI b) M = some (nI a * nI b, fil (smS (smS M 1000 1 (nI a)) 1000 2 (nI b)) 1001 (fun _ => 0) 18) := by
  unfold m_X12_system
  rw [show (1 : Int64) = (1 : Int32).toInt64 from rfl, show (3 : Int64) = (3 : Int32).toInt64 from rfl, m12_in, Option.bind_some, b01_t ha, if_1, m12_in, Option.bind_some, b01_t hb, if_1, smB_e, smB_e]
  exact m12_sysl _ (nI a) (nI b) (by rw [smS_ne (by omega), smS_at]) smS_at
theorem m12_system0 {x y : Int32} {M : smM} (h : ¬ ((1 : Int32) ≤ x ∧ x ≤ 3) ∨ ¬ ((1 : Int32) ≤ y ∧ y ≤ 3)) : m_X12_system 1000 x y M = some (-1, M) := by
  unfold m_X12_system
  rw [show (1 : Int64) = (1 : Int32).toInt64 from rfl, show (3 : Int64) = (3 : Int32).toInt64 from rfl, m12_in, Option.bind_some]
  by_cases c : (1 : Int32) ≤ x ∧ x ≤ 3
  · rw [b01_t c, if_1, m12_in, Option.bind_some, b01_f (by rcases h with h | h; exact absurd c h; exact h), if_0]
  · rw [b01_f c, if_0]
theorem op_system : Op_system Rel := by
  intro M1 M2 h x y
  have hr := h
  obtain ⟨p, ne, A, B, u, v, F, G, hpar, hs1, hs2, hca, hsl, him⟩ := h
  have hp := (Pr_rng p hpar.1).1
  unfold m_X11_system
  rw [m_isWithin, Option.bind_some]
  by_cases c : (1 : Int32) ≤ x ∧ x ≤ 3
  · rw [b01_t c]
    simp only [if_1]
    rw [m_isWithin, Option.bind_some]
    by_cases d : (1 : Int32) ≤ y ∧ y ≤ 3
    · rw [b01_t d]
      simp only [if_1]
      obtain ⟨x', hx9, rfl⟩ := rngI (h := 3) (x := x) (by omega) (by rw [Int32.le_iff_toInt_le] at *; have e : (1 : Int32).toInt = 1 := rfl; have e0 : (0 : Int32).toInt = 0 := rfl; rw [e] at c; rw [e0]; omega) c.2
      obtain ⟨y', hy9, rfl⟩ := rngI (h := 3) (x := y) (by omega) (by rw [Int32.le_iff_toInt_le] at *; have e : (1 : Int32).toInt = 1 := rfl; have e0 : (0 : Int32).toInt = 0 := rfl; rw [e] at d; rw [e0]; omega) d.2
      have hx1 : 1 ≤ x' := (nI_le_iff (a := 1) (by omega) (by omega)).mp c.1
      have hy1 : 1 ≤ y' := (nI_le_iff (a := 1) (by omega) (by omega)).mp d.1
      rw [m12_system c d]
      unfold m_X7_begin m_X2_forget m_X7_dimension
      simp only [Nat.zero_add, Nat.reduceAdd, smB]
      rw [m_clear g_2 (by decide), Option.bind_some, m_clear g_3 (by decide), Option.bind_some, Option.bind_some, Option.bind_some, Option.bind_some]
      have e1 : (smS (fil (fil (smS (smS M1 1 1 (nI x')) 1 2 (nI y')) 2 (fun x => 0) 9) 3 (fun x => 0) 9) 93 6 0) 1 = smS (smS M1 1 1 (nI x')) 1 2 (nI y') 1 := by rw [smS_o (by omega), fil_o (by omega), fil_o (by omega)]
      have fr1 : ∀ r, 3 < r → r ≠ 93 → (smS (fil (fil (smS (smS M1 1 1 (nI x')) 1 2 (nI y')) 2 (fun x => 0) 9) 3 (fun x => 0) 9) 93 6 0) r = M1 r := fun r h1 h2 => by rw [smS_o (by omega), fil_o (by omega), fil_o (by omega), smS_o (by omega), smS_o (by omega)]
      have fr2 : ∀ r, 1002 ≤ r → fil (smS (smS M2 1000 1 (nI x')) 1000 2 (nI y')) 1001 (fun _ => 0) 18 r = M2 r := fun r h1 => by rw [fil_o (by omega), smS_o (by omega), smS_o (by omega)]
      rw [e1, smS_at, smS_ne (by omega), smS_at]
      refine ⟨_, _, _, rfl, rfl, p, ne, x', y', u, v, (fun _ _ => 0), (fun _ _ => 0), ⟨hpar.1, ⟨hx1, hx9⟩, ⟨hy1, hy9⟩, hpar.2.2.2⟩, ?_, ?_, CA.forget, fun s hs => (hsl s hs).fr (fun r h1 h2 => fr1 r (by omega) (by omega)) (SAME2.of s (fun r h1 h2 => fr2 r (by omega))), fun i hi => (him i hi).fr (by rw [fr1 _ (by omega) (by omega)]) (fun r h1 h2 => fr1 r (by omega) (by omega)) (by rw [fr2 _ (by omega)]) (fun k _ _ => by rw [fr2 _ (by omega)])⟩
      · obtain ⟨q0, q1, q2, q3, q4, q5, q6⟩ := hs1
        refine ⟨?_, ?_, ?_, ?_, ?_, fun k l hk hl => ?_, fun k l hk hl => ?_⟩
        · rw [e1, smS_ne (by omega), smS_ne (by omega)]; exact q0
        · rw [e1, smS_ne (by omega), smS_at]
        · rw [e1, smS_at]
        · rw [e1, smS_ne (by omega), smS_ne (by omega)]; exact q3
        · rw [e1, smS_ne (by omega), smS_ne (by omega)]; exact q4
        · rw [smS_o (by omega), fil_o (by omega), fil_in (by omega)]; exact z_fin
        · rw [smS_o (by omega), fil_in (by omega)]; exact z_fin
      · obtain ⟨q0, q1, q2, q3, q4, q5, q6⟩ := hs2
        refine ⟨?_, ?_, ?_, ?_, ?_, fun k l hk hl => ?_, fun k l hk hl => ?_⟩
        · rw [fil_o (by omega), smS_ne (by omega), smS_ne (by omega)]; exact q0
        · rw [fil_o (by omega), smS_ne (by omega), smS_at]
        · rw [fil_o (by omega), smS_at]
        · rw [fil_o (by omega), smS_ne (by omega), smS_ne (by omega)]; exact q3
        · rw [fil_o (by omega), smS_ne (by omega), smS_ne (by omega)]; exact q4
        · rw [fil_in (by omega)]; exact z_fin
        · rw [fil_in (by omega)]; exact z_fin
    · rw [b01_f d, m12_system0 (Or.inr d)]; simp only [if_0]; exact ⟨_, _, _, rfl, rfl, hr⟩
  · rw [b01_f c, m12_system0 (Or.inl c)]; simp only [if_0]; exact ⟨_, _, _, rfl, rfl, hr⟩
