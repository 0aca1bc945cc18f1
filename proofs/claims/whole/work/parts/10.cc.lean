/-! tools for the reference: loops whose steps may speak of what follows; rows from a place on -/
theorem lp_pst {σ ρ : Type} {b : (σ → Option ρ) → σ → Option ρ} {s0 : σ} (n : Nat) (Inv : Nat → σ → Prop) (Post : Option ρ → Prop) (h0 : Inv 0 s0) (hn : n < 1000000) (hs : ∀ k s, k ≤ n → Inv k s → ∀ rc, (∃ s', k < n ∧ Inv (k + 1) s' ∧ b rc s = rc s') ∨ Post (b rc s)) : Post (smLp b smF s0) := by
  have key : ∀ (m k f : Nat) (s : σ), k + m = n → m < f → Inv k s → Post (smLp b f s) := by
    intro m
    induction m with
    | zero =>
      intro k f s hk hf hI
      cases f with
      | zero => omega
      | succ f =>
        rcases hs k s (by omega) hI (smLp b f) with ⟨s', h1, -⟩ | h1
        · omega
        · exact h1
    | succ m ih =>
      intro k f s hk hf hI
      cases f with
      | zero => omega
      | succ f =>
        rcases hs k s (by omega) hI (smLp b f) with ⟨s', h1, h3, h4⟩ | h1
        · show Post (b (smLp b f) s)
          rw [h4]; exact ih (k + 1) f s' (by omega) (by omega) h3
        · exact h1
  exact key n 0 smF s0 (by omega) (smF_lt (by omega)) h0
def fio (M : smM) (r o : Nat) (g : Nat → Int32) (n : Nat) : smM := fun a => if a = r then (fun k => if o ≤ k ∧ k < o + n then g (k - o) else M r k) else M a
theorem fio_0 (M : smM) (r o : Nat) (g : Nat → Int32) : fio M r o g 0 = M := by
  funext a k
  unfold fio
  by_cases h : a = r
  · subst h
    simp only [if_true]
    rw [if_neg (by omega)]
  · simp [h]
theorem fio_o {M : smM} {r o a n : Nat} {g : Nat → Int32} (h : a ≠ r) : fio M r o g n a = M a := by unfold fio; rw [if_neg h]
theorem fio_in {M : smM} {r o k n : Nat} {g : Nat → Int32} (h : k < n) : fio M r o g n r (o + k) = g k := by
  unfold fio
  simp only [if_true]
  rw [if_pos (by omega), Nat.add_sub_cancel_left]
theorem fio_out {M : smM} {r o k n : Nat} {g : Nat → Int32} (h : k < o ∨ o + n ≤ k) : fio M r o g n r k = M r k := by
  unfold fio
  simp only [if_true]
  rw [if_neg (by omega)]
theorem fio_s (M : smM) (r o n : Nat) (g : Nat → Int32) : smS (fio M r o g n) r (o + n) (g n) = fio M r o g (n + 1) := by
  funext a k
  unfold smS fio upd
  by_cases h : a = r
  · subst h
    simp only [if_true]
    by_cases h1 : k = o + n
    · subst h1
      rw [if_pos rfl, if_pos (by omega), Nat.add_sub_cancel_left]
    · rw [if_neg h1]
      by_cases h2 : o ≤ k ∧ k < o + n
      · rw [if_pos h2, if_pos (by omega)]
      · rw [if_neg h2, if_neg (by omega)]
  · simp [h]
theorem fio_fio (M : smM) (r o n : Nat) (g h : Nat → Int32) : fio (fio M r o g n) r o h n = fio M r o h n := by
  funext a k
  unfold fio
  by_cases e : a = r
  · subst e
    simp only [if_true]
    by_cases q : o ≤ k ∧ k < o + n
    · rw [if_pos q, if_pos q]
    · rw [if_neg q, if_neg q, if_neg q]
  · simp [e]
theorem fio_congr {M : smM} {r o n : Nat} {g h : Nat → Int32} (e : ∀ k, k < n → g k = h k) : fio M r o g n = fio M r o h n := by
  funext a k
  unfold fio
  by_cases q : a = r
  · subst q
    simp only [if_true]
    by_cases q2 : o ≤ k ∧ k < o + n
    · rw [if_pos q2, if_pos q2, e (k - o) (by omega)]
    · rw [if_neg q2, if_neg q2]
  · simp [q]
theorem fio_self {M : smM} {r o n : Nat} {g : Nat → Int32} (e : ∀ k, k < n → M r (o + k) = g k) : fio M r o g n = M := by
  funext a k
  unfold fio
  by_cases q : a = r
  · subst q
    simp only [if_true]
    by_cases q2 : o ≤ k ∧ k < o + n
    · rw [if_pos q2, ← e (k - o) (by omega), show o + (k - o) = k by omega]
    · rw [if_neg q2]
  · simp [q]
theorem if_lt0 {ρ : Type} {n : Nat} (h : n < 2147483648) (a b : ρ) : (if nI n < 0 then a else b) = b := if_neg (nI_pos h)
theorem su_split {K : Type} [Lean.Grind.CommRing K] (f : Nat → K) (n : Nat) : ∀ m : Nat, su f (n + m) = su f n + su (fun i => f (n + i)) m
  | 0 => by simp only [su]; grind
  | m + 1 => by
    rw [← Nat.add_assoc]
    simp only [su]
    rw [su_split f n m]; grind
theorem su_flat {K : Type} [Lean.Grind.CommRing K] (f : Nat → K) (A : Nat) : ∀ B : Nat, su f (A * B) = su (fun j => su (fun i => f (A * j + i)) A) B
  | 0 => rfl
  | B + 1 => by
    rw [Nat.mul_succ, su_split, su_flat f A B]
    rfl
/-! what is left over, in the reference -/
theorem kI_rem {a : Int} {d : Nat} (h1 : -4611686018427387904 ≤ a) (h2 : a < 4611686018427387904) (h0 : 0 < d) (hd : d < 4611686018427387904) : kI a - kI a / kI d * kI d = kI (a.tmod d) := by
  have ed : (kI d).toInt = d := kI_t (by omega) (by omega)
  have ea : (kI a).toInt = a := kI_t (by omega) (by omega)
  have e1 : (kI a / kI d).toInt = a.tdiv d := by
    rw [Int64.toInt_div_of_ne_right _ _ (fun h => by
      have := congrArg Int64.toInt h
      rw [ed] at this
      have : (d : Int) = -1 := this
      omega), ea, ed]
  have e2 : kI a / kI d = kI (a.tdiv d) := by rw [← e1]; exact (Int64.ofInt_toInt _).symm
  rw [e2, kI_mul, kI_sub]
  congr 1
  rw [Int.tmod_def, Int.mul_comm]
theorem m12_mod {p : Nat} [NeZero p] {z : Int} {M : smM} (hp : 2 ≤ p) (hp2 : p ≤ 97) (h0 : M 1000 0 = nI p) (h1 : -4611686018427387904 ≤ z) (h2 : z < 4611686018427387904) : m_X12_mod 1000 (kI z) M = some (nI (fz p z).val) := by
  unfold m_X12_mod
  have k0 : (0 : Int64) = kI 0 := rfl
  have hne : ¬ kI (p : Int) = (0 : Int64) := fun h => by
    have := congrArg Int64.toInt h
    rw [kI_t (by omega) (by omega), k0, kI_t (by omega) (by omega)] at this
    omega
  have hm := Int.tmod_lt_of_pos z (show (0 : Int) < p by omega)
  have hm2 : -(p : Int) < z.tmod p := by
    have := Int.lt_tmod_of_pos z (show (0 : Int) < p by omega)
    omega
  have hv := fz_val (p := p) z
  have h4 := Int.emod_nonneg z (show (p : Int) ≠ 0 by omega)
  have h5 := Int.emod_lt_of_pos z (show (0 : Int) < p by omega)
  have key : z.tmod p = z % p ∨ z.tmod p = z % p - p := by
    rw [Int.tmod_eq_emod]
    split
    · left; omega
    · right; omega
  have sgn : (0 : Int32) ≤ lg_cmp (kI (z.tmod p)) 0 ↔ 0 ≤ z.tmod p := by
    have a := lg_lt (a := kI (z.tmod p)) (b := 0)
    rw [Int64.lt_iff_toInt_lt, kI_t (by omega) (by omega), k0, kI_t (by omega) (by omega)] at a
    rw [k0]
    rw [Int32.le_iff_toInt_le]
    rw [Int32.lt_iff_toInt_lt] at a
    omega
  rw [h0, l64 (by omega), kI_lN, if_neg hne, kI_rem (by omega) (by omega) (by omega) (by omega)]
  by_cases c : 0 ≤ z.tmod p
  · rw [if_pos (sgn.mpr c)]
    show some (Int64.ofInt (z.tmod p)).toInt32 = _
    rw [Int64.toInt32_ofInt, jI_nI, hv]
    show some (jI _) = some (jI _)
    congr 2
    omega
  · rw [if_neg (fun w => c (sgn.mp w))]
    have e : kI (z.tmod p) + kI (p : Int) = kI (z.tmod p + p) := (Int64.ofInt_add _ _).symm
    rw [e]
    show some (Int64.ofInt (z.tmod p + p)).toInt32 = _
    rw [Int64.toInt32_ofInt, jI_nI, hv]
    show some (jI _) = some (jI _)
    congr 2
    omega
theorem m12_sub {p : Nat} [NeZero p] (v c w : Fin p) {M : smM} (hp : 2 ≤ p) (hp2 : p ≤ 97) (h0 : M 1000 0 = nI p) : m_X12_mod 1000 ((nI v.val).toInt64 - (nI c.val).toInt64 * (nI w.val).toInt64) M = some (nI (v - c * w).val) := by
  have a := v.isLt
  have b := c.isLt
  have d := w.isLt
  have hm : c.val * w.val ≤ 97 * 97 := Nat.mul_le_mul (by omega) (by omega)
  have hm2 : ((c.val * w.val : Nat) : Int) = (c.val : Int) * (w.val : Int) := Int.natCast_mul _ _
  rw [l64 (by omega), l64 (by omega), l64 (by omega), kI_lN, kI_lN, kI_lN, kI_mul, kI_sub, m12_mod hp hp2 h0 (by omega) (by omega)]
  rw [← fz_subz, ← fz_mulz, fz_self, fz_self, fz_self]
/-! the forms of the terms are laid -/
theorem g_15 : smLn (1000 + 15) = 441 ∧ smLn (1000 + 16) = 81 ∧ smLn (1000 + 17) = 81 ∧ smLn (1000 + 18) = 81 ∧ smLn (1000 + 19) = 81 ∧ smLn (1000 + 20) = 9 ∧ smLn (1000 + 21) = 9 ∧ smLn (1000 + 1) = 18 := by decide +kernel
theorem m12_lay195 {p at' fr : Nat} [NeZero p] {x1 x2 x4 x5 x6 : Int32} {b : Nat} {c : Fin p} {v w : Nat → Fin p} {M : smM} (hp : 2 ≤ p) (hp2 : p ≤ 97) (h0 : M 1000 0 = nI p) (hat : at' + 9 ≤ 441) (hfr : fr + 9 ≤ 441) (hd : fr + 9 ≤ at' ∨ at' + 9 ≤ fr) (hv : ∀ d, d < 9 → M 1015 (at' + d) = nI (v d).val) (hw : ∀ d, d < 9 → M 1015 (fr + d) = nI (w d).val) (rc10 rc102 rc112 : (Int32 × smM) → Option smM) : smLp (fun rc q => m_X12_laysForm_b195 1000 x1 x2 (nI at') x4 x5 x6 (nI b) (nI c.val) (nI fr) rc10 rc102 rc112 rc q.1 q.2) smF ((0 : Int32), M) = rc112 (nI (b + 1), fio M 1015 at' (fun d => nI (v d - c * w d).val) 9) := by
  by_cases hc : nI c.val = 0
  · have c0 := (fin_z hp2 c).mp hc
    refine lp_cnt 0 (fun _ => ((0 : Int32), M)) rfl (by omega) (fun k hk => absurd hk (by omega)) (fun rc => ?_)
    unfold m_X12_laysForm_b195
    simp only []
    rw [if_neg (by decide), if_pos hc, nI_add_1, fio_self (fun k hk => ?_)]
    rw [hv k hk, c0, r_0m]
    congr 2
    grind
  · refine lp_cnt 9 (fun k => (nI k, fio M 1015 at' (fun d => nI (v d - c * w d).val) k)) (by rw [fio_0]; rfl) (by omega) (fun k hk rc => ?_) (fun rc => ?_)
    · unfold m_X12_laysForm_b195
      simp only []
      rw [if_neg (show ¬ (9 : Int32) ≤ nI k from fun w => by rw [show (9 : Int32) = nI 9 from rfl, nI_le_iff (by omega) (by omega)] at w; omega), if_neg hc, nI_ad, nI_ad, cl_nI (n := at' + k) (by omega), cl_nI (n := fr + k) (by omega), g_15.1, if_ck2 (by omega) (by omega), if_ck2 (by omega) (by omega), show (1000 + 15 : Nat) = 1015 from rfl, fio_out (by omega), fio_out (by omega), hv k hk, hw k hk, m12_sub (v k) c (w k) hp hp2 (by rw [fio_o (by omega)]; exact h0), Option.bind_some, if_ck2 (by omega) (by omega), smB_e, fio_s M 1015 at' k (fun d => nI (v d - c * w d).val), nI_add_1]
    · unfold m_X12_laysForm_b195
      simp only []
      rw [if_pos (show (9 : Int32) ≤ nI 9 from Int32.le_refl _), nI_add_1]
