theorem fb_holes : ∀ (m n : Nat) (f : Nat → Nat), (∀ i, i < n → f i < m) → (∀ i j, i < j → j < n → f i ≠ f j) → n ≤ m
  | 0, n, f, h, _ => by
    rcases Nat.eq_zero_or_pos n with q | q
    · omega
    · exact absurd (h 0 q) (Nat.not_lt_zero _)
  | m + 1, n, f, h, h2 => by
    by_cases hx : ∃ i, i < n ∧ f i = m
    · obtain ⟨i, hi, e⟩ := hx
      have := fb_holes m (n - 1) (fun k => if k < i then f k else f (k + 1)) (fun k hk => by
        by_cases q : k < i
        · simp only [if_pos q]
          have a := h k (by omega)
          have b := h2 k i q hi
          omega
        · simp only [if_neg q]
          have a := h (k + 1) (by omega)
          have b := h2 i (k + 1) (by omega) (by omega)
          omega) (fun a b hab hb => by
        by_cases q1 : a < i
        · by_cases q2 : b < i
          · simp only [if_pos q1, if_pos q2]; exact h2 a b hab (by omega)
          · simp only [if_pos q1, if_neg q2]; exact h2 a (b + 1) (by omega) (by omega)
        · have q2 : ¬ b < i := by omega
          simp only [if_neg q1, if_neg q2]; exact h2 (a + 1) (b + 1) (by omega) (by omega))
      omega
    · have := fb_holes m n f (fun k hk => by
        have a := h k hk
        have b : f k ≠ m := fun e => hx ⟨k, hk, e⟩
        omega) h2
      omega
/-! taking rows out of a vector, one behind another -/
def red {K : Type} [Lean.Grind.CommRing K] (ρ : Nat → Nat → K) (π : Nat → Nat) : Nat → (Nat → K) → Nat → K
  | 0, v => v
  | r + 1, v => fun d => red ρ π r v d - red ρ π r v (π r) * ρ r d
def shr {K : Type} [Lean.Grind.CommRing K] (ρ σ : Nat → Nat → K) (π : Nat → Nat) : Nat → (Nat → K) → Nat → K
  | 0, _ => fun _ => 0
  | r + 1, v => fun k => shr ρ σ π r v k + red ρ π r v (π r) * σ r k
theorem red_cong {K : Type} [Lean.Grind.CommRing K] {ρ ρ' : Nat → Nat → K} {π π' : Nat → Nat} {v : Nat → K} : ∀ {n : Nat}, (∀ r, r < n → ρ r = ρ' r ∧ π r = π' r) → red ρ π n v = red ρ' π' n v
  | 0, _ => rfl
  | n + 1, h => by
    funext d
    simp only [red]
    rw [red_cong (fun r hr => h r (Nat.lt_succ_of_lt hr)), (h n (Nat.lt_succ_self n)).1, (h n (Nat.lt_succ_self n)).2]
theorem shr_cong {K : Type} [Lean.Grind.CommRing K] {ρ ρ' σ σ' : Nat → Nat → K} {π π' : Nat → Nat} {v : Nat → K} : ∀ {n : Nat}, (∀ r, r < n → ρ r = ρ' r ∧ σ r = σ' r ∧ π r = π' r) → shr ρ σ π n v = shr ρ' σ' π' n v
  | 0, _ => rfl
  | n + 1, h => by
    funext d
    simp only [shr]
    rw [shr_cong (fun r hr => h r (Nat.lt_succ_of_lt hr)), red_cong (fun r hr => ⟨(h r (Nat.lt_succ_of_lt hr)).1, (h r (Nat.lt_succ_of_lt hr)).2.2⟩), (h n (Nat.lt_succ_self n)).2.1, (h n (Nat.lt_succ_self n)).2.2]
theorem red_add {K : Type} [Lean.Grind.CommRing K] (ρ : Nat → Nat → K) (π : Nat → Nat) (a : K) (v w : Nat → K) : ∀ (n d : Nat), red ρ π n (fun d => a * v d + w d) d = a * red ρ π n v d + red ρ π n w d
  | 0, d => rfl
  | n + 1, d => by
    simp only [red]
    rw [red_add ρ π a v w n d, red_add ρ π a v w n (π n)]; grind
theorem red_0 {K : Type} [Lean.Grind.CommRing K] (ρ : Nat → Nat → K) (π : Nat → Nat) : ∀ (n d : Nat), red ρ π n (fun _ => 0) d = 0
  | 0, d => rfl
  | n + 1, d => by
    simp only [red]
    rw [red_0 ρ π n d, red_0 ρ π n (π n)]; grind
theorem red_su {K : Type} [Lean.Grind.CommRing K] (ρ : Nat → Nat → K) (π : Nat → Nat) (n : Nat) (c : Nat → K) (φ : Nat → Nat → K) (d : Nat) : ∀ m : Nat, red ρ π n (fun d => su (fun k => c k * φ k d) m) d = su (fun k => c k * red ρ π n (φ k) d) m
  | 0 => by simp only [su]; exact red_0 ρ π n d
  | m + 1 => by
    simp only [su]
    have e : (fun d => su (fun k => c k * φ k d) m + c m * φ m d) = fun d => c m * φ m d + su (fun k => c k * φ k d) m := by funext d; grind
    rw [e, red_add, red_su ρ π n c φ d m]; grind
/-- the rows stand in steps over the stairs' vectors V -/
def Ech {K : Type} [Lean.Grind.CommRing K] (V : Nat → Nat → K) (ρ σ : Nat → Nat → K) (π : Nat → Nat) (n : Nat) : Prop :=
  (∀ r, r < n → ρ r (π r) = 1) ∧ (∀ r q, q < r → r < n → ρ r (π q) = 0) ∧ (∀ r, r < n → ∀ d, ρ r d = su (fun k => σ r k * V k d) n) ∧ (∀ r, r < n → ∀ k, n ≤ k → σ r k = 0) ∧ (∀ k, k < n → ∀ r, k < r → r ≤ n → ∀ d, red ρ π r (V k) d = 0) ∧ ∀ k, k < n → ∃ u, u * red ρ π k (V k) (π k) = 1
theorem red_piv {K : Type} [Lean.Grind.CommRing K] {ρ : Nat → Nat → K} {π : Nat → Nat} {v : Nat → K} : ∀ {n : Nat}, (∀ r, r < n → ρ r (π r) = 1) → (∀ r q, q < r → r < n → ρ r (π q) = 0) → ∀ q, q < n → red ρ π n v (π q) = 0
  | 0, _, _, q, hq => absurd hq (Nat.not_lt_zero q)
  | n + 1, h1, h2, q, hq => by
    simp only [red]
    by_cases e : q = n
    · subst e
      rw [h1 q hq]; grind
    · rw [red_piv (fun r hr => h1 r (by omega)) (fun r q a b => h2 r q a (by omega)) q (by omega), h2 n q (by omega) (by omega)]; grind
theorem shr_big {K : Type} [Lean.Grind.CommRing K] {ρ σ : Nat → Nat → K} {π : Nat → Nat} {v : Nat → K} {k : Nat} : ∀ {n : Nat}, (∀ r, r < n → σ r k = 0) → shr ρ σ π n v k = 0
  | 0, _ => rfl
  | n + 1, h => by
    simp only [shr]
    rw [shr_big (fun r hr => h r (by omega)), h n (by omega)]; grind
theorem red_shr {K : Type} [Lean.Grind.CommRing K] {V ρ σ : Nat → Nat → K} {π : Nat → Nat} {N : Nat} {v : Nat → K} : ∀ {n : Nat}, (∀ r, r < n → ∀ d, ρ r d = su (fun k => σ r k * V k d) N) → ∀ d, v d = red ρ π n v d + su (fun k => shr ρ σ π n v k * V k d) N
  | 0, _, d => by
    simp only [red, shr]
    rw [su_zero' (fun k _ => by grind)]; grind
  | n + 1, h, d => by
    have ih := red_shr (π := π) (v := v) (fun r hr => h r (Nat.lt_succ_of_lt hr)) d
    simp only [red, shr]
    rw [h n (Nat.lt_succ_self n) d]
    have e : su (fun k => (shr ρ σ π n v k + red ρ π n v (π n) * σ n k) * V k d) N = su (fun k => shr ρ σ π n v k * V k d) N + red ρ π n v (π n) * su (fun k => σ n k * V k d) N := by
      rw [← su_mul, ← su_add]
      exact su_cong (fun k _ => by grind)
    rw [e]
    grind
/-- with the rest nothing, the share tells the vector -/
theorem Ech.tell {K : Type} [Lean.Grind.CommRing K] {V ρ σ : Nat → Nat → K} {π : Nat → Nat} {n : Nat} (h : Ech V ρ σ π n) {v : Nat → K} (h0 : ∀ d, red ρ π n v d = 0) (d : Nat) : v d = su (fun k => shr ρ σ π n v k * V k d) n := by
  have := red_shr (π := π) (v := v) h.2.2.1 d
  rw [h0 d] at this
  grind
theorem Ech.share {K : Type} [Lean.Grind.CommRing K] {V ρ σ : Nat → Nat → K} {π : Nat → Nat} {n : Nat} (h : Ech V ρ σ π n) (v : Nat → K) {k : Nat} (hk : n ≤ k) : shr ρ σ π n v k = 0 := shr_big (fun r hr => h.2.2.2.1 r hr k hk)
theorem Ech.ind {K : Type} [Lean.Grind.CommRing K] {V ρ σ : Nat → Nat → K} {π : Nat → Nat} {n : Nat} (h : Ech V ρ σ π n) {c : Nat → K} : ∀ m, m ≤ n → (∀ d, su (fun k => c k * V k d) m = 0) → ∀ k, k < m → c k = 0 := by
  obtain ⟨h1, h2, h3, h4, h5, h6⟩ := h
  intro m
  induction m with
  | zero => intro _ _ k hk; exact absurd hk (Nat.not_lt_zero k)
  | succ m ih =>
    intro hm hz
    have e : ∀ d, su (fun k => c k * red ρ π m (V k) d) (m + 1) = 0 := fun d => by
      rw [← red_su ρ π m c V d (m + 1)]
      have : (fun d => su (fun k => c k * V k d) (m + 1)) = fun _ => 0 := by funext d; exact hz d
      rw [this, red_0]
    have e2 := e (π m)
    simp only [su] at e2
    rw [su_zero' (fun k hk => by rw [h5 k (by omega) m hk (by omega)]; grind)] at e2
    obtain ⟨u, hu⟩ := h6 m (by omega)
    have cm : c m = 0 := by
      have : c m * (u * red ρ π m (V m) (π m)) = 0 := by
        have : c m * (u * red ρ π m (V m) (π m)) = u * (0 + c m * red ρ π m (V m) (π m)) := by grind
        rw [this, e2]; grind
      rw [hu] at this
      grind
    intro k hk
    by_cases ek : k = m
    · rw [ek]; exact cm
    · refine ih (by omega) (fun d => ?_) k (by omega)
      have := hz d
      simp only [su] at this
      rw [cm] at this
      grind
/-- a new row -/
theorem Ech.add {K : Type} [Lean.Grind.CommRing K] {V ρ σ V' ρ' σ' : Nat → Nat → K} {π π' : Nat → Nat} {n : Nat} (h : Ech V ρ σ π n) {v : Nat → K} {q : Nat} {s : K} (hs : s * red ρ π n v q = 1) (hV : ∀ k, k < n → V' k = V k) (hVn : V' n = v) (hρ : ∀ k, k < n → ρ' k = ρ k) (hρn : ∀ d, ρ' n d = s * red ρ π n v d) (hσ : ∀ k, k < n → σ' k = σ k) (hσn : ∀ k, σ' n k = if k = n then s else - (s * shr ρ σ π n v k)) (hπ : ∀ k, k < n → π' k = π k) (hπn : π' n = q) : Ech V' ρ' σ' π' (n + 1) := by
  have hr : ∀ r, r ≤ n → ∀ v, red ρ' π' r v = red ρ π r v := fun r hr v => red_cong (fun k hk => ⟨hρ k (by omega), hπ k (by omega)⟩)
  obtain ⟨h1, h2, h3, h4, h5, h6⟩ := h
  refine ⟨fun r hr1 => ?_, fun r q2 a b => ?_, fun r hr1 d => ?_, fun r hr1 k hk => ?_, fun k hk0 r hk => ?_, fun k hk => ?_⟩
  · by_cases e : r = n
    · subst e
      rw [hρn, hπn]; exact hs
    · rw [hρ r (by omega), hπ r (by omega)]; exact h1 r (by omega)
  · by_cases e : r = n
    · subst e
      rw [hρn, hπ q2 a, red_piv h1 h2 q2 a]; grind
    · rw [hρ r (by omega), hπ q2 (by omega)]; exact h2 r q2 a (by omega)
  · by_cases e : r = n
    · subst e
      simp only [su]
      rw [hσn r, if_pos rfl, hVn, hρn d]
      have e1 := red_shr (π := π) (V := V) (σ := σ) (N := r) (v := v) h3 d
      have e2 : su (fun k => σ' r k * V' k d) r = - (s * su (fun k => shr ρ σ π r v k * V k d) r) := by
        rw [← su_mul, ← su_neg]
        exact su_cong (fun k hk => by rw [hσn k, if_neg (by omega), hV k hk]; grind)
      rw [e2]
      grind
    · rw [hρ r (by omega), h3 r (by omega) d]
      simp only [su]
      rw [hσ r (by omega), h4 r (by omega) n (Nat.le_refl n), su_cong (g := fun k => σ r k * V' k d) (fun k hk => by rw [hV k hk])]
      grind
  · by_cases e : r = n
    · subst e
      rw [hσn, if_neg (by omega), shr_big (fun r2 hr2 => h4 r2 hr2 k (by omega))]; grind
    · rw [hσ r (by omega)]; exact h4 r (by omega) k (by omega)
  · intro g1 d
    by_cases er : r ≤ n
    · rw [hr r er, hV k (by omega)]; exact h5 k (by omega) r hk er d
    · have er : r = n + 1 := by omega
      subst er
      simp only [red]
      rw [hr n (Nat.le_refl n)]
      by_cases e : k = n
      · subst e
        rw [hVn, hπn, hρn d]
        have : red ρ π k v d - red ρ π k v q * (s * red ρ π k v d) = red ρ π k v d - (s * red ρ π k v q) * red ρ π k v d := by grind
        rw [this, hs]; grind
      · rw [hV k (by omega), h5 k (by omega) n (by omega) (Nat.le_refl n) d, h5 k (by omega) n (by omega) (Nat.le_refl n) (π' n)]; grind
  · by_cases e : k = n
    · subst e
      rw [hr k (Nat.le_refl k), hVn, hπn]; exact ⟨s, hs⟩
    · rw [hr k (by omega), hV k (by omega), hπ k (by omega)]; exact h6 k (by omega)
theorem Ech.zero {K : Type} [Lean.Grind.CommRing K] (V ρ σ : Nat → Nat → K) (π : Nat → Nat) : Ech V ρ σ π 0 := ⟨fun _ h => absurd h (Nat.not_lt_zero _), fun _ _ _ h => absurd h (Nat.not_lt_zero _), fun _ h => absurd h (Nat.not_lt_zero _), fun _ h => absurd h (Nat.not_lt_zero _), fun _ h => absurd h (Nat.not_lt_zero _), fun _ h => absurd h (Nat.not_lt_zero _)⟩
theorem Ech.pinj {K : Type} [Lean.Grind.CommRing K] (h01 : (0 : K) ≠ 1) {V ρ σ : Nat → Nat → K} {π : Nat → Nat} {n : Nat} (h : Ech V ρ σ π n) {q r : Nat} (hq : q < r) (hr : r < n) : π q ≠ π r := by
  intro e
  have a := h.1 r hr
  have b := h.2.1 r q hq hr
  rw [e, a] at b
  exact h01 b.symm
