/-! sums over a commutative ring -/
def su {K : Type} [Lean.Grind.CommRing K] (f : Nat → K) : Nat → K
  | 0 => 0
  | n + 1 => su f n + f n
theorem su_cong {K : Type} [Lean.Grind.CommRing K] {f g : Nat → K} : ∀ {n : Nat}, (∀ k, k < n → f k = g k) → su f n = su g n
  | 0, _ => rfl
  | n + 1, h => by
    rw [su, su, su_cong (fun k hk => h k (Nat.lt_succ_of_lt hk)), h n (Nat.lt_succ_self n)]
theorem su_zero {K : Type} [Lean.Grind.CommRing K] : ∀ n : Nat, su (fun _ => (0 : K)) n = 0
  | 0 => rfl
  | n + 1 => by rw [su, su_zero n]; grind
theorem su_zero' {K : Type} [Lean.Grind.CommRing K] {f : Nat → K} {n : Nat} (h : ∀ k, k < n → f k = 0) : su f n = 0 := by
  rw [su_cong h, su_zero]
theorem su_add {K : Type} [Lean.Grind.CommRing K] (f g : Nat → K) : ∀ n : Nat, su (fun k => f k + g k) n = su f n + su g n
  | 0 => by simp only [su]; grind
  | n + 1 => by simp only [su]; rw [su_add f g n]; grind
theorem su_mul {K : Type} [Lean.Grind.CommRing K] (c : K) (f : Nat → K) : ∀ n : Nat, su (fun k => c * f k) n = c * su f n
  | 0 => by simp only [su]; grind
  | n + 1 => by simp only [su]; rw [su_mul c f n]; grind
theorem su_neg {K : Type} [Lean.Grind.CommRing K] (f : Nat → K) (n : Nat) : su (fun k => - f k) n = - su f n := by
  have h := su_mul (-1 : K) f n
  have e : (fun k => -1 * f k) = fun k => - f k := by funext k; grind
  rw [e] at h
  rw [h]; grind
theorem su_swap {K : Type} [Lean.Grind.CommRing K] (f : Nat → Nat → K) (m : Nat) : ∀ n : Nat, su (fun i => su (fun j => f i j) m) n = su (fun j => su (fun i => f i j) n) m
  | 0 => by simp only [su]; rw [su_zero]
  | n + 1 => by
    simp only [su]
    rw [su_swap f m n, su_add]
theorem su_one {K : Type} [Lean.Grind.CommRing K] (f : Nat → K) {i : Nat} : ∀ {n : Nat}, i < n → (∀ k, k < n → k ≠ i → f k = 0) → su f n = f i
  | 0, h, _ => absurd h (Nat.not_lt_zero i)
  | n + 1, h, hz => by
    rw [su]
    by_cases e : i = n
    · subst e
      rw [su_zero' (fun k hk => hz k (by omega) (by omega))]
      grind
    · rw [su_one f (show i < n by omega) (fun k hk hne => hz k (by omega) hne), hz n (by omega) (by omega)]
      grind
/-- a sum over the pairs k, l with k + l less than A, weighted by c -/
def dd {K : Type} [Lean.Grind.CommRing K] (c : Nat → Nat → K) (A : Nat) (φ : Nat → Nat → K) : K := su (fun k => su (fun l => c k l * φ k l) (A - k)) A
theorem dd_cong {K : Type} [Lean.Grind.CommRing K] {c : Nat → Nat → K} {A : Nat} {φ ψ : Nat → Nat → K} (h : ∀ k l, k + l < A → φ k l = ψ k l) : dd c A φ = dd c A ψ :=
  su_cong (fun k hk => su_cong (fun l hl => by rw [h k l (by omega)]))
theorem dd_add {K : Type} [Lean.Grind.CommRing K] (c : Nat → Nat → K) (A : Nat) (φ ψ : Nat → Nat → K) : dd c A (fun k l => φ k l + ψ k l) = dd c A φ + dd c A ψ := by
  unfold dd
  rw [← su_add]
  apply su_cong
  intro k _
  rw [← su_add]
  apply su_cong
  intro l _
  grind
theorem dd_mul {K : Type} [Lean.Grind.CommRing K] (c : Nat → Nat → K) (A : Nat) (a : K) (φ : Nat → Nat → K) : dd c A (fun k l => a * φ k l) = a * dd c A φ := by
  unfold dd
  rw [← su_mul]
  apply su_cong
  intro k _
  rw [← su_mul]
  apply su_cong
  intro l _
  grind
theorem dd_zero {K : Type} [Lean.Grind.CommRing K] (c : Nat → Nat → K) (A : Nat) : dd c A (fun _ _ => 0) = 0 := by
  unfold dd
  apply su_zero'
  intro k _
  apply su_zero'
  intro l _
  grind
theorem dd_neg {K : Type} [Lean.Grind.CommRing K] (c : Nat → Nat → K) (A : Nat) (φ : Nat → Nat → K) : dd c A (fun k l => - φ k l) = - dd c A φ := by
  have h := dd_mul c A (-1) φ
  have e : (fun k l => -1 * φ k l) = fun k l => - φ k l := by funext k l; grind
  rw [e] at h
  rw [h]; grind
theorem dd_su {K : Type} [Lean.Grind.CommRing K] (c : Nat → Nat → K) (A : Nat) (ψ : Nat → Nat → Nat → K) : ∀ n : Nat, dd c A (fun k l => su (fun m => ψ m k l) n) = su (fun m => dd c A (ψ m)) n
  | 0 => by simp only [su]; exact dd_zero c A
  | n + 1 => by
    simp only [su]
    rw [dd_add, dd_su c A ψ n]
theorem dd_dd {K : Type} [Lean.Grind.CommRing K] (c c' : Nat → Nat → K) (A B : Nat) (φ : Nat → Nat → Nat → Nat → K) : dd c A (fun k l => dd c' B (fun k' l' => φ k l k' l')) = dd c' B (fun k' l' => dd c A (fun k l => φ k l k' l')) := by
  have e1 : ∀ k l, dd c' B (fun k' l' => φ k l k' l') = su (fun k' => su (fun l' => c' k' l' * φ k l k' l') (B - k')) B := fun _ _ => rfl
  simp only [e1]
  rw [dd_su c A (fun k' k l => su (fun l' => c' k' l' * φ k l k' l') (B - k')) B]
  show _ = su (fun k' => su (fun l' => c' k' l' * dd c A (fun k l => φ k l k' l')) (B - k')) B
  apply su_cong
  intro k' _
  rw [dd_su c A (fun l' k l => c' k' l' * φ k l k' l') (B - k')]
  apply su_cong
  intro l' _
  rw [dd_mul]
/-! the normal forms of the terms over the A times B terms below both powers, place A j + i -/
def Nf {K : Type} [Lean.Grind.CommRing K] (A B : Nat) (f g : Nat → Nat → K) : Nat → Nat → Nat → Nat → K
  | 0, _, _, _ => 0
  | n + 1, i, j, d => if A ≤ i then - dd f A (fun k l => Nf A B f g n (i - A + k) (j + l) d) else if B ≤ j then - dd g B (fun k l => Nf A B f g n (i + k) (j - B + l) d) else if d = A * j + i then 1 else 0
def Nn {K : Type} [Lean.Grind.CommRing K] (A B : Nat) (f g : Nat → Nat → K) (i j d : Nat) : K := Nf A B f g (i + j + 1) i j d
theorem Nf_stab {K : Type} [Lean.Grind.CommRing K] {A B : Nat} {f g : Nat → Nat → K} : ∀ (n m i j d : Nat), i + j < n → i + j < m → Nf A B f g n i j d = Nf A B f g m i j d
  | 0, m, i, j, d, h, _ => absurd h (by omega)
  | n + 1, 0, i, j, d, _, h => absurd h (by omega)
  | n + 1, m + 1, i, j, d, h1, h2 => by
    rw [Nf, Nf]
    by_cases hA : A ≤ i
    · rw [if_pos hA, if_pos hA]
      congr 1
      exact dd_cong (fun k l hkl => Nf_stab n m _ _ d (by omega) (by omega))
    · rw [if_neg hA, if_neg hA]
      by_cases hB : B ≤ j
      · rw [if_pos hB, if_pos hB]
        congr 1
        exact dd_cong (fun k l hkl => Nf_stab n m _ _ d (by omega) (by omega))
      · rw [if_neg hB, if_neg hB]
theorem Nn_F {K : Type} [Lean.Grind.CommRing K] {A B : Nat} {f g : Nat → Nat → K} {i j : Nat} (h : A ≤ i) (d : Nat) : Nn A B f g i j d = - dd f A (fun k l => Nn A B f g (i - A + k) (j + l) d) := by
  unfold Nn
  rw [Nf, if_pos h]
  congr 1
  exact dd_cong (fun k l hkl => Nf_stab _ _ _ _ d (by omega) (by omega))
theorem Nn_G0 {K : Type} [Lean.Grind.CommRing K] {A B : Nat} {f g : Nat → Nat → K} {i j : Nat} (hA : i < A) (h : B ≤ j) (d : Nat) : Nn A B f g i j d = - dd g B (fun k l => Nn A B f g (i + k) (j - B + l) d) := by
  unfold Nn
  rw [Nf, if_neg (by omega), if_pos h]
  congr 1
  exact dd_cong (fun k l hkl => Nf_stab _ _ _ _ d (by omega) (by omega))
theorem Nn_u {K : Type} [Lean.Grind.CommRing K] {A B : Nat} {f g : Nat → Nat → K} {i j : Nat} (hA : i < A) (hB : j < B) (d : Nat) : Nn A B f g i j d = if d = A * j + i then 1 else 0 := by
  unfold Nn
  rw [Nf, if_neg (by omega), if_neg (by omega)]
theorem Nn_G {K : Type} [Lean.Grind.CommRing K] {A B : Nat} {f g : Nat → Nat → K} (d : Nat) : ∀ (n i j : Nat), i + j < n → B ≤ j → Nn A B f g i j d = - dd g B (fun k l => Nn A B f g (i + k) (j - B + l) d)
  | 0, i, j, h, _ => absurd h (by omega)
  | n + 1, i, j, h, hB => by
    by_cases hA : A ≤ i
    · rw [Nn_F hA]
      have e1 : dd f A (fun k l => Nn A B f g (i - A + k) (j + l) d) = dd f A (fun k l => - dd g B (fun k' l' => Nn A B f g (i - A + k + k') (j + l - B + l') d)) :=
        dd_cong (fun k l hkl => Nn_G d n _ _ (by omega) (by omega))
      have e2 : dd g B (fun k l => Nn A B f g (i + k) (j - B + l) d) = dd g B (fun k l => - dd f A (fun k' l' => Nn A B f g (i + k - A + k') (j - B + l + l') d)) :=
        dd_cong (fun k l hkl => Nn_F (by omega) d)
      rw [e1, e2, dd_neg, dd_neg, dd_dd]
      congr 2
      apply dd_cong
      intro k l hkl
      apply dd_cong
      intro k' l' hkl'
      rw [show i - A + k' + k = i + k - A + k' by omega, show j + l' - B + l = j - B + l + l' by omega]
    · exact Nn_G0 (by omega) hB d
/-- x times, y times what a vector stands for -/
def mulX {K : Type} [Lean.Grind.CommRing K] (A B : Nat) (f g : Nat → Nat → K) (v : Nat → K) (d : Nat) : K := su (fun j => su (fun i => v (A * j + i) * Nn A B f g (i + 1) j d) A) B
def mulY {K : Type} [Lean.Grind.CommRing K] (A B : Nat) (f g : Nat → Nat → K) (v : Nat → K) (d : Nat) : K := su (fun j => su (fun i => v (A * j + i) * Nn A B f g i (j + 1) d) A) B
/-- both at once: what z holds for the terms -/
def mulZ {K : Type} [Lean.Grind.CommRing K] (A B : Nat) (z : Nat → Nat → K) (v : Nat → K) : K := su (fun j => su (fun i => v (A * j + i) * z i j) A) B
theorem mulZ_neg {K : Type} [Lean.Grind.CommRing K] (A B : Nat) (z : Nat → Nat → K) (v : Nat → K) : mulZ A B z (fun d => - v d) = - mulZ A B z v := by
  unfold mulZ
  rw [← su_neg]
  apply su_cong
  intro j _
  rw [← su_neg]
  apply su_cong
  intro i _
  grind
theorem mulZ_dd {K : Type} [Lean.Grind.CommRing K] (A B : Nat) (z : Nat → Nat → K) (c : Nat → Nat → K) (C : Nat) (φ : Nat → Nat → Nat → K) : mulZ A B z (fun d => dd c C (fun k l => φ k l d)) = dd c C (fun k l => mulZ A B z (φ k l)) := by
  unfold mulZ
  rw [dd_su c C (fun j k l => su (fun i => φ k l (A * j + i) * z i j) A) B]
  apply su_cong
  intro j _
  rw [dd_su c C (fun i k l => φ k l (A * j + i) * z i j) A]
  apply su_cong
  intro i _
  have e := dd_mul c C (z i j) (fun k l => φ k l (A * j + i))
  have e2 : (fun k l => z i j * φ k l (A * j + i)) = fun k l => φ k l (A * j + i) * z i j := by funext k l; grind
  rw [e2] at e
  rw [e]; grind
theorem place_inj {A i j i' j' : Nat} (hi : i < A) (hi' : i' < A) (h : A * j + i = A * j' + i') : i = i' ∧ j = j' := by
  have e1 : (A * j + i) % A = i := by rw [Nat.mul_add_mod]; exact Nat.mod_eq_of_lt hi
  have e2 : (A * j' + i') % A = i' := by rw [Nat.mul_add_mod]; exact Nat.mod_eq_of_lt hi'
  have e3 : i = i' := by rw [← e1, ← e2, h]
  subst e3
  have e4 : A * j = A * j' := by omega
  exact ⟨rfl, Nat.eq_of_mul_eq_mul_left (by omega) e4⟩
theorem mulZ_u {K : Type} [Lean.Grind.CommRing K] {A B : Nat} (z : Nat → Nat → K) {i j : Nat} (hi : i < A) (hj : j < B) : mulZ A B z (fun d => if d = A * j + i then 1 else 0) = z i j := by
  unfold mulZ
  rw [su_one _ hj, su_one _ hi]
  · show (if A * j + i = A * j + i then (1 : K) else 0) * z i j = z i j
    rw [if_pos rfl]; grind
  · intro k hk hne
    show (if A * j + k = A * j + i then (1 : K) else 0) * z k j = 0
    rw [if_neg (fun e => hne (place_inj hk hi e).1)]; grind
  · intro k hk hne
    apply su_zero'
    intro k2 hk2
    show (if A * k + k2 = A * j + i then (1 : K) else 0) * z k2 k = 0
    rw [if_neg (fun e => hne (place_inj hk2 hi e).2)]; grind
/-- a table z that keeps the two rules is what mulZ makes of the normal forms -/
theorem mulZ_N {K : Type} [Lean.Grind.CommRing K] {A B : Nat} {f g : Nat → Nat → K} (z : Nat → Nat → K) (hF : ∀ i j, A ≤ i → z i j = - dd f A (fun k l => z (i - A + k) (j + l))) (hG : ∀ i j, B ≤ j → z i j = - dd g B (fun k l => z (i + k) (j - B + l))) : ∀ (n i j : Nat), i + j < n → mulZ A B z (Nn A B f g i j) = z i j
  | 0, i, j, h => absurd h (by omega)
  | n + 1, i, j, h => by
    by_cases hA : A ≤ i
    · have e : Nn A B f g i j = fun d => - dd f A (fun k l => Nn A B f g (i - A + k) (j + l) d) := by funext d; exact Nn_F hA d
      rw [e, mulZ_neg, mulZ_dd A B z f A (fun k l d => Nn A B f g (i - A + k) (j + l) d), hF i j hA]
      congr 1
      exact dd_cong (fun k l hkl => mulZ_N z hF hG n _ _ (by omega))
    · by_cases hB : B ≤ j
      · have e : Nn A B f g i j = fun d => - dd g B (fun k l => Nn A B f g (i + k) (j - B + l) d) := by funext d; exact Nn_G d _ i j (Nat.lt_succ_self _) hB
        rw [e, mulZ_neg, mulZ_dd A B z g B (fun k l d => Nn A B f g (i + k) (j - B + l) d), hG i j hB]
        congr 1
        exact dd_cong (fun k l hkl => mulZ_N z hF hG n _ _ (by omega))
      · have e : Nn A B f g i j = fun d => if d = A * j + i then 1 else 0 := by funext d; exact Nn_u (by omega) (by omega) d
        rw [e]
        exact mulZ_u z (by omega) (by omega)
theorem mulX_N {K : Type} [Lean.Grind.CommRing K] {A B : Nat} {f g : Nat → Nat → K} (i j : Nat) : mulX A B f g (Nn A B f g i j) = Nn A B f g (i + 1) j := by
  funext d
  refine mulZ_N (A := A) (B := B) (f := f) (g := g) (fun i j => Nn A B f g (i + 1) j d) (fun i j h => ?_) (fun i j h => ?_) (i + j + 1) i j (Nat.lt_succ_self _)
  · rw [Nn_F (by omega)]
    congr 1
    exact dd_cong (fun k l _ => by rw [show i + 1 - A + k = i - A + k + 1 by omega])
  · rw [Nn_G d _ (i + 1) j (Nat.lt_succ_self _) h]
    congr 1
    exact dd_cong (fun k l _ => by rw [show i + 1 + k = i + k + 1 by omega])
theorem mulY_N {K : Type} [Lean.Grind.CommRing K] {A B : Nat} {f g : Nat → Nat → K} (i j : Nat) : mulY A B f g (Nn A B f g i j) = Nn A B f g i (j + 1) := by
  funext d
  refine mulZ_N (A := A) (B := B) (f := f) (g := g) (fun i j => Nn A B f g i (j + 1) d) (fun i j h => ?_) (fun i j h => ?_) (i + j + 1) i j (Nat.lt_succ_self _)
  · rw [Nn_F h]
    congr 1
    exact dd_cong (fun k l _ => by rw [show j + 1 + l = j + l + 1 by omega])
  · rw [Nn_G d _ i (j + 1) (Nat.lt_succ_self _) (by omega)]
    congr 1
    exact dd_cong (fun k l _ => by rw [show j + 1 - B + l = j - B + l + 1 by omega])
theorem Nn_big {K : Type} [Lean.Grind.CommRing K] {A B : Nat} {f g : Nat → Nat → K} {d : Nat} (hd : A * B ≤ d) : ∀ (n i j : Nat), i + j < n → Nn A B f g i j d = 0
  | 0, i, j, h => absurd h (by omega)
  | n + 1, i, j, h => by
    by_cases hA : A ≤ i
    · rw [Nn_F hA, dd_cong (fun k l hkl => Nn_big hd n _ _ (by omega)), dd_zero]; grind
    · by_cases hB : B ≤ j
      · rw [Nn_G0 (by omega) hB, dd_cong (fun k l hkl => Nn_big hd n _ _ (by omega)), dd_zero]; grind
      · rw [Nn_u (by omega) (by omega), if_neg]
        intro e
        have h1 : A * j + A ≤ A * B := by
          have := Nat.mul_le_mul_left A (show j + 1 ≤ B by omega)
          rw [Nat.mul_add, Nat.mul_one] at this
          exact this
        omega
