/-! drawing -/
def kI (z : Int) : Int64 := Int64.ofInt z
theorem kI_lN (n : Nat) : lN n = kI (n : Int) := by
  unfold lN kI
  rw [Int64.ofInt_eq_ofNat]
theorem kI_sub (a b : Int) : kI a - kI b = kI (a - b) := (Int64.ofInt_sub a b).symm
theorem kI_mul (a b : Int) : kI a * kI b = kI (a * b) := (Int64.ofInt_mul a b).symm
theorem kI_t {z : Int} (h1 : -9223372036854775808 ≤ z) (h2 : z < 9223372036854775808) : (kI z).toInt = z := by
  unfold kI
  rw [Int64.toInt_ofInt]
  show z.bmod 18446744073709551616 = z
  exact Int.bmod_eq_of_le (by omega) (by omega)
theorem lN_rem {a d : Nat} (ha : a < 2 ^ 62) (h0 : 0 < d) (hd : d < 2 ^ 62) : lN a - lN a / lN d * lN d = lN (a % d) := by
  have ed : (lN d).toInt = d := by rw [kI_lN]; exact kI_t (by omega) (by omega)
  have ea : (lN a).toInt = a := by rw [kI_lN]; exact kI_t (by omega) (by omega)
  have e1 : (lN a / lN d).toInt = (a : Int).tdiv d := by
    rw [Int64.toInt_div_of_ne_right _ _ (fun h => by
      have := congrArg Int64.toInt h
      rw [ed] at this
      have : (d : Int) = -1 := this
      omega), ea, ed]
  have e2 : lN a / lN d = kI ((a : Int).tdiv d) := by
    rw [← e1]; exact (Int64.ofInt_toInt _).symm
  rw [e2, kI_lN a, kI_lN d, kI_mul, kI_sub, kI_lN]
  congr 1
  have h1 : (a : Int).tdiv d = ((a / d : Nat) : Int) := rfl
  have h2 := Nat.div_add_mod a d
  rw [h1]
  have h3 : ((a / d : Nat) : Int) * (d : Int) = ((d * (a / d) : Nat) : Int) := by
    rw [Int.natCast_mul, Int.mul_comm]
  rw [h3]
  omega
theorem lN_32 {n : Nat} : (lN n).toInt32 = nI n := by
  rw [kI_lN, jI_nI]
  exact Int64.toInt32_ofInt
def nx (z : Nat) : Nat := z * 16807 % 2147483647
theorem nx_lt (z : Nat) : nx z < 2147483647 := Nat.mod_lt _ (by omega)
theorem nx_64 {z : Nat} (hz : z < 2147483648) : lN z * (16807 : Int64) - lN z * (16807 : Int64) / (2147483647 : Int64) * (2147483647 : Int64) = lN (nx z) := by
  have e : lN z * (16807 : Int64) = lN (z * 16807) := by rw [show (16807 : Int64) = lN 16807 from rfl, lN_mul]
  rw [e, show (2147483647 : Int64) = lN 2147483647 from rfl, lN_rem (by omega) (by omega) (by omega)]
  rfl
def upF {p : Nat} (H : Nat → Nat → Fin p) (a b : Nat) (w : Fin p) : Nat → Nat → Fin p := fun k l => if k = a ∧ l = b then w else H k l
def dI {p : Nat} [NeZero p] (j : Nat) (s : (Nat → Nat → Fin p) × Nat) : Nat → (Nat → Nat → Fin p) × Nat
  | 0 => s
  | i + 1 => (upF (dI j s i).1 i j (fz p ((nx (dI j s i).2 : Nat) : Int)), nx (dI j s i).2)
def dO {p : Nat} [NeZero p] (P : Nat) (s : (Nat → Nat → Fin p) × Nat) : Nat → (Nat → Nat → Fin p) × Nat
  | 0 => s
  | j + 1 => dI j (dO P s j) (P - j)
theorem dI_lt {p : Nat} [NeZero p] {j : Nat} {s : (Nat → Nat → Fin p) × Nat} (h : s.2 < 2147483648) : ∀ i, (dI j s i).2 < 2147483648
  | 0 => h
  | i + 1 => by
    have := nx_lt (dI j s i).2
    show nx (dI j s i).2 < _
    omega
theorem dO_lt {p : Nat} [NeZero p] {P : Nat} {s : (Nat → Nat → Fin p) × Nat} (h : s.2 < 2147483648) : ∀ j, (dO P s j).2 < 2147483648
  | 0 => h
  | j + 1 => dI_lt (dO_lt h j) _
/-! in the class -/
def wr {p : Nat} (M : smM) (r : Nat) (H : Nat → Nat → Fin p) : smM := fil M r (fun t => nI (H (t % 3) (t / 3)).val) 9
theorem wr_self {p : Nat} {M : smM} {r : Nat} {H : Nat → Nat → Fin p} (h : ∀ k l, k < 3 → l < 3 → M r (3 * l + k) = nI (H k l).val) : wr M r H = M := by
  funext a t
  unfold wr
  by_cases e : a = r
  · subst e
    by_cases q : t < 9
    · rw [fil_in q, ← h (t % 3) (t / 3) (by omega) (by omega)]
      congr 1; omega
    · rw [fil_out (by omega)]
  · rw [fil_o e]
theorem wr_st {p : Nat} {M : smM} {r a b : Nat} {H : Nat → Nat → Fin p} {w : Fin p} (ha : a < 3) (hb : b < 3) : smS (wr M r H) r (3 * b + a) (nI w.val) = wr M r (upF H a b w) := by
  funext q t
  unfold wr
  by_cases e : q = r
  · subst e
    by_cases g : t = 3 * b + a
    · subst g
      rw [smS_at, fil_in (by omega)]
      unfold upF
      rw [if_pos ⟨by omega, by omega⟩]
    · rw [smS_ne g]
      by_cases q : t < 9
      · rw [fil_in q, fil_in q]
        unfold upF
        rw [if_neg (by omega)]
      · rw [fil_out (by omega), fil_out (by omega)]
  · rw [smS_o e, fil_o e, fil_o e]
theorem wr_at {p : Nat} {M : smM} {r k l : Nat} {H : Nat → Nat → Fin p} (hk : k < 3) (hl : l < 3) : wr M r H r (3 * l + k) = nI (H k l).val := by
  unfold wr
  rw [fil_in (by omega), show (3 * l + k) % 3 = k by omega, show (3 * l + k) / 3 = l by omega]
theorem m_power {M : smM} {o A B : Nat} (ho : o < 2) (h1 : M 1 1 = nI A) (h2 : M 1 2 = nI B) : m_X7_power 1 (nI o) M = some (nI (if o = 0 then A else B)) := by
  unfold m_X7_power
  rcases (show o = 0 ∨ o = 1 by omega) with rfl | rfl
  · rw [if_pos n_00, h1]; rfl
  · rw [if_neg n_10, h2]; rfl
theorem m_chg {M : smM} {o a b A B : Nat} {c : Int32} (ho : o < 2) (h1 : M 1 1 = nI A) (h2 : M 1 2 = nI B) (hP : (if o = 0 then A else B) ≤ 3) (hab : a + b < (if o = 0 then A else B)) : m_X7_change 1 (nI o) (nI a) (nI b) c M = some (smS M (2 + o) (3 * b + a) c) := by
  have e : (3 : Int32) * nI b + nI a = nI (3 * b + a) := by
    rw [show (3 : Int32) = nI 3 from rfl, jI_nI, jI_nI, jI_nI, jI_nI, jI_mul, jI_add]; congr 1
  have hh : m_X7_hasCoefficient 1 (nI o) (nI a) (nI b) M = some 1 := by
    unfold m_X7_hasCoefficient
    have es : nI (if o = 0 then A else B) - nI a = nI ((if o = 0 then A else B) - a) := by
      rw [jI_nI, jI_nI, jI_nI, jI_sub]; congr 1; omega
    rw [m_isUnknown, Option.bind_some, b01_t ⟨nI_0le (by omega), (nI_le_iff (b := 1) (by omega) (by omega)).mpr (by omega)⟩, if_1, if_neg (fun q => nI_pos (by omega) q), if_neg (fun q => nI_pos (by omega) q), m_power ho h1 h2, Option.bind_some, if_neg (fun q => by rw [nI_le_iff (by omega) (by omega)] at q; omega), Option.bind_some, es, if_neg (fun q => by rw [nI_le_iff (by omega) (by omega)] at q; omega)]
  unfold m_X7_change m_X7_coefficients
  have ck : ∀ {ρ : Type} (T : Option ρ), (if nI (3 * b + a) < 0 ∨ 9 ≤ 3 * b + a then none else T) = T := fun T => if_ck2 (by omega) (by omega) T
  rw [hh, Option.bind_some]
  simp only [if_1]
  rw [e, cl_nI (n := 3 * b + a) (by omega)]
  rcases (show o = 0 ∨ o = 1 by omega) with rfl | rfl
  · simp only [if_pos n_00, Option.bind_some, Nat.reduceAdd, g_2, ck, smB]
  · simp only [if_neg n_10, Option.bind_some, Nat.reduceAdd, g_3, ck, smB]
theorem m_scatter {p o z A B : Nat} [NeZero p] {M : smM} {H : Nat → Nat → Fin p} (hp : 2 ≤ p) (hp2 : p ≤ 97) (ho : o < 2) (hz : z < 2147483648) (h0 : M 1 0 = nI p) (h1 : M 1 1 = nI A) (h2 : M 1 2 = nI B) (hP : (if o = 0 then A else B) ≤ 3) : m_X7_scatter 1 (nI z) (nI o) (wr M (2 + o) H) = some (nI (dO (if o = 0 then A else B) (H, z) (if o = 0 then A else B)).2, wr M (2 + o) (dO (if o = 0 then A else B) (H, z) (if o = 0 then A else B)).1) := by
  generalize hPP : (if o = 0 then A else B) = P at *
  have w1 : ∀ H' : Nat → Nat → Fin p, wr M (2 + o) H' 1 = M 1 := fun H' => fil_o (by omega)
  have pw : ∀ H' : Nat → Nat → Fin p, m_X7_power 1 (nI o) (wr M (2 + o) H') = some (nI P) := fun H' => by
    rw [← hPP]; exact m_power ho (by rw [w1]; exact h1) (by rw [w1]; exact h2)
  unfold m_X7_scatter
  refine lp_cnt P (fun j => (lN (dO P (H, z) j).2, nI j, wr M (2 + o) (dO P (H, z) j).1)) (by rw [l64 hz]; rfl) (by omega) (fun j hj rc => ?_) (fun rc => ?_)
  · show m_X7_scatter_b6 1 (nI o) rc (lN (dO P (H, z) j).2) (nI j) (wr M (2 + o) (dO P (H, z) j).1) = rc (lN (dO P (H, z) (j + 1)).2, nI (j + 1), wr M (2 + o) (dO P (H, z) (j + 1)).1)
    have hzj := dO_lt (P := P) (s := (H, z)) hz j
    unfold m_X7_scatter_b6
    rw [pw, Option.bind_some, if_neg (fun q => by rw [nI_le_iff (by omega) (by omega)] at q; omega)]
    refine lp_cnt (P - j) (fun i => (lN (dI j (dO P (H, z) j) i).2, nI i, wr M (2 + o) (dI j (dO P (H, z) j) i).1)) rfl (by omega) (fun i hi rc' => ?_) (fun rc' => ?_)
    · show m_X7_scatter_b19 1 (nI o) (nI j) rc rc' (lN (dI j (dO P (H, z) j) i).2) (nI i) (wr M (2 + o) (dI j (dO P (H, z) j) i).1) = rc' (lN (nx (dI j (dO P (H, z) j) i).2), nI (i + 1), wr M (2 + o) (upF (dI j (dO P (H, z) j) i).1 i j (fz p ((nx (dI j (dO P (H, z) j) i).2 : Nat) : Int))))
      have hzi := dI_lt (j := j) hzj i
      have hn := nx_lt (dI j (dO P (H, z) j) i).2
      have es : nI P - nI j = nI (P - j) := by rw [jI_nI, jI_nI, jI_nI, jI_sub]; congr 1; omega
      unfold m_X7_scatter_b19
      rw [pw, Option.bind_some, es, if_neg (fun q => by rw [nI_le_iff (by omega) (by omega)] at q; omega), if_neg (by decide), nx_64 hzi, lN_32, w1, h0, m_left hp hp2, Option.bind_some, rd_nI (by omega), m_chg ho (by rw [w1]; exact h1) (by rw [w1]; exact h2) (by rw [hPP]; exact hP) (by rw [hPP]; omega), Option.bind_some, nI_add_1]
      have := wr_st (M := M) (r := 2 + o) (a := i) (b := j) (H := (dI j (dO P (H, z) j) i).1) (w := fz p ((nx (dI j (dO P (H, z) j) i).2 : Nat) : Int)) (by omega) (by omega)
      rw [fz_nat] at this
      rw [this]
    · show m_X7_scatter_b19 1 (nI o) (nI j) rc rc' (lN (dI j (dO P (H, z) j) (P - j)).2) (nI (P - j)) (wr M (2 + o) (dI j (dO P (H, z) j) (P - j)).1) = rc (lN (dI j (dO P (H, z) j) (P - j)).2, nI (j + 1), wr M (2 + o) (dI j (dO P (H, z) j) (P - j)).1)
      have es : nI P - nI j = nI (P - j) := by rw [jI_nI, jI_nI, jI_nI, jI_sub]; congr 1; omega
      unfold m_X7_scatter_b19
      rw [pw, Option.bind_some, es, if_pos ((nI_le_iff (by omega) (by omega)).mpr (Nat.le_refl _)), nI_add_1]
  · show m_X7_scatter_b6 1 (nI o) rc (lN (dO P (H, z) P).2) (nI P) (wr M (2 + o) (dO P (H, z) P).1) = _
    unfold m_X7_scatter_b6
    rw [pw, Option.bind_some, if_pos ((nI_le_iff (by omega) (by omega)).mpr (Nat.le_refl _)), lN_32]
