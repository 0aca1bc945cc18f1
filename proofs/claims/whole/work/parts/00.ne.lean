/-! loops of the mirrors, and numbers of the field -/
theorem smLp_run {σ ρ : Type} {b : (σ → Option ρ) → σ → Option ρ} (S : Nat → σ) (e : Option ρ) : ∀ (n m : Nat), n < m → (∀ k, k < n → ∀ rc, b rc (S k) = rc (S (k + 1))) → (∀ rc, b rc (S n) = e) → smLp b m (S 0) = e := by
  have key : ∀ (n k m : Nat), n < m → (∀ j, j < k + n → ∀ rc, b rc (S j) = rc (S (j + 1))) → (∀ rc, b rc (S (k + n)) = e) → smLp b m (S k) = e := by
    intro n
    induction n with
    | zero =>
      intro k m hm _ he
      cases m with
      | zero => omega
      | succ m => exact he _
    | succ n ih =>
      intro k m hm hs he
      cases m with
      | zero => omega
      | succ m =>
        show b (smLp b m) (S k) = e
        rw [hs k (by omega)]
        exact ih (k + 1) m (by omega) (fun j hj => hs j (by omega)) (fun rc => by rw [show k + 1 + n = k + (n + 1) by omega]; exact he rc)
  intro n m hm hs he
  exact key n 0 m hm (fun j hj => hs j (by omega)) (fun rc => by rw [Nat.zero_add]; exact he rc)
theorem smF_lt {n : Nat} (h : n < 1000000000) : n < smF := h
/-- a loop that counts from 0 to n -/
theorem lp_cnt {σ ρ : Type} {b : (σ → Option ρ) → σ → Option ρ} {s0 : σ} {e : Option ρ} (n : Nat) (S : Nat → σ) (h0 : s0 = S 0) (hn : n < 1000000000) (hs : ∀ k, k < n → ∀ rc, b rc (S k) = rc (S (k + 1))) (he : ∀ rc, b rc (S n) = e) : smLp b smF s0 = e := by
  subst h0
  exact smLp_run S e n smF (smF_lt hn) hs he
theorem cl_nI {n : Nat} (h : n < 2147483648) : (nI n).toNatClampNeg = n := nI_clamp h
theorem ck_nI {n N : Nat} (h : n < N) (hN : n < 2147483648) : ¬ (nI n < 0 ∨ N ≤ (nI n).toNatClampNeg) := by
  rw [cl_nI hN]
  rintro (q | q)
  · exact nI_pos hN q
  · omega
theorem if_ck {ρ : Type} {n N : Nat} (h : n < N) (hN : n < 2147483648) (T : Option ρ) : (if nI n < 0 ∨ N ≤ (nI n).toNatClampNeg then none else T) = T := if_neg (ck_nI h hN)
theorem lit_nI (n : Nat) : (OfNat.ofNat n : Int32) = nI n := rfl
theorem rem_nI {a d : Nat} (ha : a < 2147483648) (h0 : 0 < d) (hd : d < 2147483648) : nI a - nI a / nI d * nI d = nI (a % d) := pk_rem ha h0 hd
theorem z_nI {d : Nat} (h0 : 0 < d) (hd : d < 2147483648) : ¬ nI d = 0 := nI_ne0 h0 hd
theorem nI_inj {a b : Nat} (ha : a < 2147483648) (hb : b < 2147483648) : nI a = nI b ↔ a = b := nI_eq ha hb
theorem nI_le_iff {a b : Nat} (ha : a < 2147483648) (hb : b < 2147483648) : nI a ≤ nI b ↔ a ≤ b := nI_leI ha hb
theorem nI_lt_iff {a b : Nat} (ha : a < 2147483648) (hb : b < 2147483648) : nI a < nI b ↔ a < b := nI_ltI ha hb
theorem nI_add_1 (k : Nat) : nI k + 1 = nI (k + 1) := nI_1 k
/-- a row of the memory from 0 to n made new -/
def fil (M : smM) (r : Nat) (g : Nat → Int32) (n : Nat) : smM := fun a => if a = r then (fun k => if k < n then g k else M r k) else M a
theorem fil_0 (M : smM) (r : Nat) (g : Nat → Int32) : fil M r g 0 = M := by
  funext a k
  unfold fil
  by_cases h : a = r
  · subst h; simp
  · simp [h]
theorem fil_o {M : smM} {r a n : Nat} {g : Nat → Int32} (h : a ≠ r) : fil M r g n a = M a := by unfold fil; rw [if_neg h]
theorem fil_in {M : smM} {r k n : Nat} {g : Nat → Int32} (h : k < n) : fil M r g n r k = g k := by unfold fil; rw [if_pos rfl]; simp [h]
theorem fil_out {M : smM} {r k n : Nat} {g : Nat → Int32} (h : n ≤ k) : fil M r g n r k = M r k := by unfold fil; rw [if_pos rfl]; simp [Nat.not_lt.mpr h]
theorem fil_s (M : smM) (r n : Nat) (g : Nat → Int32) : smS (fil M r g n) r n (g n) = fil M r g (n + 1) := by
  funext a k
  unfold smS fil upd
  by_cases h : a = r
  · subst h
    simp only [if_true]
    by_cases h1 : k = n
    · subst h1; simp
    · by_cases h2 : k < n
      · simp [h1, h2, Nat.lt_succ_of_lt h2]
      · simp [h1, h2, show ¬ k < n + 1 by omega]
  · simp [h]
theorem smS_at {M : smM} {r k : Nat} {v : Int32} : smS M r k v r k = v := by unfold smS upd; simp
theorem smS_ne {M : smM} {r k j : Nat} {v : Int32} (h : j ≠ k) : smS M r k v r j = M r j := by unfold smS upd; simp [h]
theorem smS_o {M : smM} {r k a : Nat} {v : Int32} (h : a ≠ r) : smS M r k v a = M a := by unfold smS; rw [if_neg h]
/-- the number of the field that a whole number is -/
def fz (p : Nat) [NeZero p] (z : Int) : Fin p := ⟨(z % (p : Int)).toNat, by
  have h0 : (0 : Int) < p := by have := NeZero.ne p; omega
  have h1 := Int.emod_nonneg z (by omega : (p : Int) ≠ 0)
  have h2 := Int.emod_lt_of_pos z h0
  omega⟩
theorem fz_val {p : Nat} [NeZero p] (z : Int) : ((fz p z).val : Int) = z % (p : Int) := by
  have h0 : (0 : Int) < p := by have := NeZero.ne p; omega
  have h1 := Int.emod_nonneg z (by omega : (p : Int) ≠ 0)
  show (((z % (p : Int)).toNat : Nat) : Int) = _
  omega
theorem fz_eq {p : Nat} [NeZero p] {a : Fin p} {z : Int} (h : (a.val : Int) % (p : Int) = z % (p : Int)) : a = fz p z := by
  apply Fin.ext
  have e1 := fz_val (p := p) z
  have e2 : (a.val : Int) % (p : Int) = a.val := Int.emod_eq_of_lt (by omega) (by have := a.isLt; omega)
  omega
theorem fz_self {p : Nat} [NeZero p] (a : Fin p) : fz p (a.val : Int) = a := (fz_eq rfl).symm
theorem fz_add {p : Nat} [NeZero p] (a b : Fin p) : a + b = fz p ((a.val : Int) + b.val) := fz_eq (by
  rw [Fin.val_add]
  rw [Int.natCast_emod, Int.emod_emod, Int.natCast_add])
theorem fz_mul {p : Nat} [NeZero p] (a b : Fin p) : a * b = fz p ((a.val : Int) * b.val) := fz_eq (by
  rw [Fin.val_mul]
  rw [Int.natCast_emod, Int.emod_emod, Int.natCast_mul])
theorem fz_addz {p : Nat} [NeZero p] (x y : Int) : fz p x + fz p y = fz p (x + y) := by
  rw [fz_add]
  apply Fin.ext
  have e1 := fz_val (p := p) (((fz p x).val : Int) + (fz p y).val)
  have e2 := fz_val (p := p) (x + y)
  have ex := fz_val (p := p) x
  have ey := fz_val (p := p) y
  have e3 : (((fz p x).val : Int) + (fz p y).val) % (p : Int) = (x + y) % (p : Int) := by rw [ex, ey, ← Int.add_emod]
  omega
theorem fz_mulz {p : Nat} [NeZero p] (x y : Int) : fz p x * fz p y = fz p (x * y) := by
  rw [fz_mul]
  apply Fin.ext
  have e1 := fz_val (p := p) (((fz p x).val : Int) * (fz p y).val)
  have e2 := fz_val (p := p) (x * y)
  have ex := fz_val (p := p) x
  have ey := fz_val (p := p) y
  have e3 : (((fz p x).val : Int) * (fz p y).val) % (p : Int) = (x * y) % (p : Int) := by rw [ex, ey, ← Int.mul_emod]
  omega
theorem fz_0 {p : Nat} [NeZero p] : fz p 0 = 0 := by
  apply Fin.ext
  have e := fz_val (p := p) 0
  rw [Int.zero_emod] at e
  have : (0 : Fin p).val = 0 := rfl
  omega
theorem fz_negz {p : Nat} [NeZero p] (x : Int) : - fz p x = fz p (-x) := by
  have h : fz p x + fz p (-x) = 0 := by rw [fz_addz, Int.add_right_neg, fz_0]
  grind
theorem fz_subz {p : Nat} [NeZero p] (x y : Int) : fz p x - fz p y = fz p (x - y) := by
  have h := fz_negz (p := p) y
  have h2 := fz_addz (p := p) x (-y)
  rw [← h] at h2
  rw [Int.sub_eq_add_neg, ← h2]; grind
