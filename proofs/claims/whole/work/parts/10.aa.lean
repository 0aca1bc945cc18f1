/-! numbers -/
theorem fb_rng (x : Int32) : -2147483648 ≤ x.toInt ∧ x.toInt < 2147483648 := by
  have h1 := Int32.le_toInt x
  have h2 := Int32.toInt_lt x
  omega
theorem fb_bmod {z : Int} (h1 : -2147483648 ≤ z) (h2 : z < 2147483648) : z.bmod (2 ^ 32) = z := by
  rw [Int.bmod_eq_of_le (by omega) (by omega)]
theorem fb_ofI {z : Int} (h1 : -2147483648 ≤ z) (h2 : z < 2147483648) : (Int32.ofInt z).toInt = z := by
  rw [Int32.toInt_ofInt]
  exact fb_bmod h1 h2
theorem fb_asI (x : Int32) : Int32.ofInt x.toInt = x := Int32.ofInt_toInt x
/-- a whole number as an int -/
def jI (z : Int) : Int32 := Int32.ofInt z
theorem jI_nI (n : Nat) : nI n = jI (n : Int) := by
  unfold nI jI
  rw [Int32.ofInt_eq_ofNat]
theorem jI_add (a b : Int) : jI a + jI b = jI (a + b) := (Int32.ofInt_add a b).symm
theorem jI_sub (a b : Int) : jI a - jI b = jI (a - b) := (Int32.ofInt_sub a b).symm
theorem jI_mul (a b : Int) : jI a * jI b = jI (a * b) := (Int32.ofInt_mul a b).symm
theorem jI_neg (a : Int) : - jI a = jI (-a) := (Int32.ofInt_neg a).symm
theorem jI_t {z : Int} (h1 : -2147483648 ≤ z) (h2 : z < 2147483648) : (jI z).toInt = z := fb_ofI h1 h2
theorem jI_of (x : Int32) : x = jI x.toInt := (fb_asI x).symm
theorem jI_lt {a b : Int} (h1 : -2147483648 ≤ a) (h2 : a < 2147483648) (h3 : -2147483648 ≤ b) (h4 : b < 2147483648) : jI a < jI b ↔ a < b := by
  rw [Int32.lt_iff_toInt_lt, jI_t h1 h2, jI_t h3 h4]
theorem jI_le {a b : Int} (h1 : -2147483648 ≤ a) (h2 : a < 2147483648) (h3 : -2147483648 ≤ b) (h4 : b < 2147483648) : jI a ≤ jI b ↔ a ≤ b := by
  rw [Int32.le_iff_toInt_le, jI_t h1 h2, jI_t h3 h4]
theorem jI_eq {a b : Int} (h1 : -2147483648 ≤ a) (h2 : a < 2147483648) (h3 : -2147483648 ≤ b) (h4 : b < 2147483648) : jI a = jI b ↔ a = b := by
  rw [← Int32.toInt_inj, jI_t h1 h2, jI_t h3 h4]
theorem jI_lit (n : Nat) : (OfNat.ofNat n : Int32) = jI (n : Int) := jI_nI n
theorem jI_rem {a : Int} {d : Nat} (h1 : -2147483648 ≤ a) (h2 : a < 2147483648) (h0 : 0 < d) (hd : d < 2147483648) : jI a - jI a / nI d * nI d = jI (a.tmod d) := by
  have ed : (nI d).toInt = d := nI_toInt hd
  have ea : (jI a).toInt = a := jI_t h1 h2
  have e1 : (jI a / nI d).toInt = a.tdiv d := by
    rw [Int32.toInt_div_of_ne_right _ _ (fun h => by
      have := congrArg Int32.toInt h
      rw [ed] at this
      have : (d : Int) = -1 := this
      omega), ea, ed]
  have e2 : jI a / nI d = jI (a.tdiv d) := by rw [← e1]; exact jI_of _
  rw [e2, jI_nI d, jI_mul, jI_sub]
  congr 1
  rw [Int.tmod_def]
  rw [Int.mul_comm]
theorem m_leftOver {z : Int} {p : Nat} [NeZero p] (h1 : -2147483648 ≤ z) (h2 : z < 2147483648) (hp : 2 ≤ p) (hp2 : p < 2147483648) (M : smM) : m_X11_leftOver (jI z) (nI p) M = some (nI (fz p z).val) := by
  unfold m_X11_leftOver
  have hp1 : (2 : Int32) ≤ nI p := nI_le (a := 2) hp hp2
  rw [if_pos hp1, if_neg (nI_ne0 (by omega) hp2), jI_rem h1 h2 (by omega) hp2]
  have hm := Int.tmod_lt_of_pos z (show (0 : Int) < p by omega)
  have hm2 : -(p : Int) < z.tmod p := by
    have := Int.lt_tmod_of_pos z (show (0 : Int) < p by omega)
    omega
  have hv := fz_val (p := p) z
  have h0 : (0 : Int32) = jI 0 := rfl
  have h4 := Int.emod_nonneg z (show (p : Int) ≠ 0 by omega)
  have h5 := Int.emod_lt_of_pos z (show (0 : Int) < p by omega)
  have key : z.tmod p = z % p ∨ z.tmod p = z % p - p := by
    rw [Int.tmod_eq_emod]
    split
    · left; omega
    · right; omega
  by_cases hz : 0 ≤ z.tmod p
  · rw [h0, if_pos ((jI_le (by omega) (by omega) (by omega) (by omega)).mpr hz), jI_nI, hv]
    congr 2
    omega
  · rw [h0, if_neg (fun h => hz ((jI_le (by omega) (by omega) (by omega) (by omega)).mp h)), jI_nI p, jI_add, jI_nI, hv]
    congr 2
    omega
/-! the loops over one row -/
theorem fil_fil (M : smM) (r n : Nat) (g h : Nat → Int32) : fil (fil M r g n) r h n = fil M r h n := by
  funext a k
  unfold fil
  by_cases e : a = r
  · subst e
    simp only [if_true]
    by_cases q : k < n
    · simp [q]
    · simp [q]
  · simp [e]
theorem fil_congr {M : smM} {r n : Nat} {g h : Nat → Int32} (e : ∀ k, k < n → g k = h k) : fil M r g n = fil M r h n := by
  funext a k
  unfold fil
  by_cases q : a = r
  · subst q
    simp only [if_true]
    by_cases q2 : k < n
    · simp [q2, e k q2]
    · simp [q2]
  · simp [q]
theorem m_clear {a n : Nat} (hn : smLn a = n) (hn2 : n < 1000) (M : smM) : m_X11_clear a M = some (fil M a (fun _ => 0) n) := by
  unfold m_X11_clear
  refine lp_cnt n (fun k => (nI k, fil M a (fun _ => 0) k)) (by rw [fil_0]; rfl) (by omega) (fun k hk rc => ?_) (fun rc => ?_)
  · unfold m_X11_clear_b2
    simp only []
    rw [hn, if_neg (by rw [nI_le_iff (by omega) (by omega)]; omega), if_ck hk (by omega), cl_nI (by omega)]
    show rc _ = rc _
    rw [fil_s M a k (fun _ => 0), nI_add_1]
  · unfold m_X11_clear_b2
    simp only []
    rw [hn, if_pos (Int32.le_refl _)]
theorem fin_mac {p : Nat} [NeZero p] (v w : Fin p) (c : Nat) : (v + fz p (c : Int) * w).val = (v.val + c * w.val) % p := by
  have e : v + fz p (c : Int) * w = fz p ((v.val : Int) + (c : Int) * (w.val : Int)) := by
    rw [← fz_addz, ← fz_mulz, fz_self, fz_self]
  rw [e]
  have h := fz_val (p := p) ((v.val : Int) + (c : Int) * (w.val : Int))
  have h2 : ((v.val : Int) + (c : Int) * (w.val : Int)) % (p : Int) = (((v.val + c * w.val) % p : Nat) : Int) := by
    rw [Int.natCast_emod, Int.natCast_add, Int.natCast_mul]
  rw [h2] at h
  omega
theorem mac_nI {p : Nat} [NeZero p] (hp : p ≤ 97) (v w : Fin p) {c : Nat} (hc : c ≤ 97) : (nI v.val + nI c * nI w.val) - (nI v.val + nI c * nI w.val) / nI p * nI p = nI (v + fz p (c : Int) * w).val := by
  have h1 := v.isLt
  have h2 := w.isLt
  have h3 : c * w.val ≤ 97 * 97 := Nat.mul_le_mul hc (by omega)
  rw [pk_mul, nI_add, rem_nI (by omega) (by omega) (by omega), fin_mac]
theorem m_bringMultiple {a r n p c : Nat} [NeZero p] (ha : smLn a = n) (hr : smLn r = n) (hn : n < 1000) (hne : r ≠ a) (hp : 2 ≤ p) (hp2 : p ≤ 97) (hc : c ≤ 97) {M : smM} {v w : Nat → Fin p} (hv : ∀ k, k < n → M a k = nI (v k).val) (hw : ∀ k, k < n → M r k = nI (w k).val) : m_X11_bringMultiple a r (nI c) (nI p) M = some (fil M a (fun k => nI (v k + fz p (c : Int) * w k).val) n) := by
  unfold m_X11_bringMultiple
  have hp1 : (2 : Int32) ≤ nI p := nI_le (a := 2) hp (by omega)
  rw [if_pos hp1]
  refine lp_cnt n (fun k => (nI k, fil M a (fun k => nI (v k + fz p (c : Int) * w k).val) k)) (by rw [fil_0]; rfl) (by omega) (fun k hk rc => ?_) (fun rc => ?_)
  · unfold m_X11_bringMultiple_b9
    simp only []
    rw [ha, hr, if_neg (by rw [nI_le_iff (by omega) (by omega)]; omega), if_neg (by rw [nI_le_iff (by omega) (by omega)]; omega), if_ck hk (by omega), if_ck hk (by omega), if_neg (nI_ne0 (by omega) (by omega)), if_ck hk (by omega), cl_nI (by omega), fil_out (Nat.le_refl k), fil_o hne, hv k hk, hw k hk, mac_nI hp2 (v k) (w k) hc]
    show rc _ = rc _
    rw [fil_s M a k (fun k => nI (v k + fz p (c : Int) * w k).val), nI_add_1]
  · unfold m_X11_bringMultiple_b9
    simp only []
    rw [ha, if_pos (Int32.le_refl _)]
/-- the first place that isn't 0 -/
theorem m_first_some {a n j : Nat} (hn : smLn a = n) (hn2 : n < 1000) {M : smM} (hj : j < n) (h0 : ∀ k, k < j → M a k = 0) (h1 : M a j ≠ 0) : m_X11_firstNotZero a M = some (nI j) := by
  unfold m_X11_firstNotZero
  refine lp_cnt j (fun k => nI k) rfl (by omega) (fun k hk rc => ?_) (fun rc => ?_)
  · unfold m_X11_firstNotZero_b2
    rw [hn, if_neg (by rw [nI_le_iff (by omega) (by omega)]; omega), if_ck (by omega) (by omega), cl_nI (by omega), if_pos (h0 k hk), nI_add_1]
  · unfold m_X11_firstNotZero_b2
    rw [hn, if_neg (by rw [nI_le_iff (by omega) (by omega)]; omega), if_ck (by omega) (by omega), cl_nI (by omega), if_neg h1]
theorem m_first_none {a n : Nat} (hn : smLn a = n) (hn2 : n < 1000) {M : smM} (h0 : ∀ k, k < n → M a k = 0) : m_X11_firstNotZero a M = some (-1) := by
  unfold m_X11_firstNotZero
  refine lp_cnt n (fun k => nI k) rfl (by omega) (fun k hk rc => ?_) (fun rc => ?_)
  · unfold m_X11_firstNotZero_b2
    rw [hn, if_neg (by rw [nI_le_iff (by omega) (by omega)]; omega), if_ck (by omega) (by omega), cl_nI (by omega), if_pos (h0 k hk), nI_add_1]
  · unfold m_X11_firstNotZero_b2
    rw [hn, if_pos (Int32.le_refl _)]
/-- within bounds -/
def b01 (c : Prop) [Decidable c] : Int32 := if c then 1 else 0
theorem b01_eq0 {c : Prop} [Decidable c] : b01 c = 0 ↔ ¬ c := by
  unfold b01
  by_cases h : c
  · simp [h]
  · simp [h]
theorem m_isWithin (x l h : Int32) (M : smM) : m_X11_isWithin x l h M = some (b01 (l ≤ x ∧ x ≤ h)) := by
  unfold m_X11_isWithin b01
  by_cases h1 : x < l
  · have : ¬ l ≤ x := by rw [Int32.le_iff_toInt_le]; rw [Int32.lt_iff_toInt_lt] at h1; omega
    simp [h1, this]
  · have h1' : l ≤ x := by rw [Int32.le_iff_toInt_le]; rw [Int32.lt_iff_toInt_lt] at h1; omega
    by_cases h2 : h < x
    · have : ¬ x ≤ h := by rw [Int32.le_iff_toInt_le]; rw [Int32.lt_iff_toInt_lt] at h2; omega
      simp [h1, h2, this]
    · have h2' : x ≤ h := by rw [Int32.le_iff_toInt_le]; rw [Int32.lt_iff_toInt_lt] at h2; omega
      simp [h1, h2, h1', h2']
theorem smZ_b01 {c : Prop} [Decidable c] : smZ (b01 c) = b01 c := by
  unfold b01
  by_cases h : c
  · simp only [if_pos h]; decide
  · simp only [if_neg h]; decide
theorem m_isOrder (x : Int32) (M : smM) : m_X11_isOrder x M = some (b01 (0 ≤ x ∧ x ≤ 4)) := by
  unfold m_X11_isOrder
  rw [m_isWithin]
  show some (smZ _) = _
  rw [smZ_b01]
theorem m_isSlot (x : Int32) (M : smM) : m_X11_isSlot x M = some (b01 (0 ≤ x ∧ x ≤ 3)) := by
  unfold m_X11_isSlot
  rw [m_isWithin]
  show some (smZ _) = _
  rw [smZ_b01]
theorem m_isUnknown (x : Int32) (M : smM) : m_X11_isUnknown x M = some (b01 (0 ≤ x ∧ x ≤ 1)) := by
  unfold m_X11_isUnknown
  rw [m_isWithin]
  show some (smZ _) = _
  rw [smZ_b01]
/-! primes of 2 .. 97, and the inverse -/
def PrL : List Nat := [2, 3, 5, 7, 11, 13, 17, 19, 23, 29, 31, 37, 41, 43, 47, 53, 59, 61, 67, 71, 73, 79, 83, 89, 97]
theorem Pr_rng : ∀ p ∈ PrL, 2 ≤ p ∧ p ≤ 97 := by decide +kernel
theorem Pr_pow : ∀ p ∈ PrL, ∀ a, a < p → 0 < a → a ^ (p - 2) % p * a % p = 1 := by decide +kernel
theorem inv_ex {p a : Nat} (hp : p ∈ PrL) (ha : a < p) (h0 : 0 < a) : ∃ k, 1 ≤ k ∧ k < p ∧ k * a % p = 1 ∧ ∀ j, 1 ≤ j → j < k → j * a % p ≠ 1 := by
  have hr := Pr_rng p hp
  have h1 := Pr_pow p hp a ha h0
  have hlt : a ^ (p - 2) % p < p := Nat.mod_lt _ (by omega)
  have hpos : 1 ≤ a ^ (p - 2) % p := by
    rcases Nat.eq_zero_or_pos (a ^ (p - 2) % p) with q | q
    · rw [q, Nat.zero_mul, Nat.zero_mod] at h1; omega
    · exact q
  obtain ⟨k, hk, hmin⟩ := pk_least (fun k => 1 ≤ k ∧ k * a % p = 1) ⟨_, hpos, h1⟩
  refine ⟨k, hk.1, ?_, hk.2, fun j hj hjk e => hmin j hjk ⟨hj, e⟩⟩
  apply Classical.byContradiction
  intro hn
  exact hmin (a ^ (p - 2) % p) (by omega) ⟨hpos, h1⟩
theorem m_inverse {p a k : Nat} (hp : 2 ≤ p) (hp2 : p ≤ 97) (ha : a < p) (h1 : 1 ≤ k) (hk : k < p) (hm : k * a % p = 1) (hl : ∀ j, 1 ≤ j → j < k → j * a % p ≠ 1) (M : smM) : m_X11_inverse (nI a) (nI p) M = some (nI k) := by
  unfold m_X11_inverse
  have val : ∀ j, j < p → (nI j * nI a) - (nI j * nI a) / nI p * nI p = nI (j * a % p) := fun j hj => by
    have : j * a ≤ 97 * 97 := Nat.mul_le_mul (by omega) (by omega)
    rw [pk_mul, rem_nI (by omega) (by omega) (by omega)]
  have one : ∀ j, j < p → (nI (j * a % p) = (1 : Int32) ↔ j * a % p = 1) := fun j hj => by
    have : j * a % p < p := Nat.mod_lt _ (by omega)
    exact nI_inj (b := 1) (by omega) (by omega)
  refine lp_cnt (k - 1) (fun j => nI (j + 1)) rfl (by omega) (fun j hj rc => ?_) (fun rc => ?_)
  · unfold m_X11_inverse_b2
    rw [if_neg (by rw [nI_le_iff (by omega) (by omega)]; omega), if_neg (nI_ne0 (by omega) (by omega)), val (j + 1) (by omega), if_neg (fun e => hl (j + 1) (by omega) (by omega) ((one (j + 1) (by omega)).mp e)), nI_add_1]
  · unfold m_X11_inverse_b2
    rw [show k - 1 + 1 = k by omega, if_neg (by rw [nI_le_iff (by omega) (by omega)]; omega), if_neg (nI_ne0 (by omega) (by omega)), val k hk, if_pos ((one k hk).mpr hm)]
theorem m2_inverse {a0 p a k : Nat} (hp : 2 ≤ p) (hp2 : p ≤ 97) (ha : a < p) (h1 : 1 ≤ k) (hk : k < p) (hm : k * a % p = 1) (hl : ∀ j, 1 ≤ j → j < k → j * a % p ≠ 1) {M : smM} (hM : M a0 0 = nI p) : m_X12_inverse a0 (nI a) M = some (nI k) := by
  unfold m_X12_inverse
  have val : ∀ j, j < p → (nI a * nI j) - (nI a * nI j) / nI p * nI p = nI (j * a % p) := fun j hj => by
    have : a * j ≤ 97 * 97 := Nat.mul_le_mul (by omega) (by omega)
    rw [pk_mul, rem_nI (by omega) (by omega) (by omega), Nat.mul_comm]
  have one : ∀ j, j < p → (nI (j * a % p) = (1 : Int32) ↔ j * a % p = 1) := fun j hj => by
    have : j * a % p < p := Nat.mod_lt _ (by omega)
    exact nI_inj (b := 1) (by omega) (by omega)
  refine lp_cnt (k - 1) (fun j => nI (j + 1)) rfl (by omega) (fun j hj rc => ?_) (fun rc => ?_)
  · unfold m_X12_inverse_b2
    rw [hM, if_neg (nI_ne0 (by omega) (by omega)), val (j + 1) (by omega), if_neg (fun e => hl (j + 1) (by omega) (by omega) ((one (j + 1) (by omega)).mp e)), nI_add_1]
  · unfold m_X12_inverse_b2
    rw [show k - 1 + 1 = k by omega, hM, if_neg (nI_ne0 (by omega) (by omega)), val k hk, if_pos ((one k hk).mpr hm)]
theorem inv_fz {p k : Nat} [NeZero p] {a : Fin p} (hp : 2 ≤ p) (hm : k * a.val % p = 1) : fz p (k : Int) * a = 1 := by
  have e : fz p (k : Int) * a = fz p ((k : Int) * a.val) := by rw [← fz_mulz, fz_self]
  rw [e]
  apply Fin.ext
  have h := fz_val (p := p) ((k : Int) * a.val)
  have h2 : ((k : Int) * (a.val : Int)) % (p : Int) = ((k * a.val % p : Nat) : Int) := by rw [Int.natCast_emod, Int.natCast_mul]
  rw [h2, hm] at h
  have h3 : (1 : Fin p).val = 1 := by
    show 1 % p = 1
    exact Nat.mod_eq_of_lt (by omega)
  omega
