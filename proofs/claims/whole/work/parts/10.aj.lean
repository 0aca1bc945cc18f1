/-! the walk of the class: the pure part of its invariant -/
def ctb (ps : Nat → Bool) : Nat → Nat
  | 0 => 0
  | n + 1 => ctb ps n + (if ps n then 1 else 0)
theorem ctb_le (ps : Nat → Bool) : ∀ n, ctb ps n ≤ n
  | 0 => Nat.le_refl 0
  | n + 1 => by
    have := ctb_le ps n
    simp only [ctb]
    split <;> omega
theorem ctb_full {ps : Nat → Bool} : ∀ {n : Nat}, ctb ps n = n → ∀ k, k < n → ps k = true
  | 0, _, k, hk => absurd hk (Nat.not_lt_zero k)
  | n + 1, h, k, hk => by
    have h1 := ctb_le ps n
    simp only [ctb] at h
    by_cases q : ps n = true
    · rw [if_pos q] at h
      by_cases e : k = n
      · rw [e]; exact q
      · exact ctb_full (n := n) (by omega) k (by omega)
    · rw [if_neg q] at h; omega
theorem ctb_cong {ps qs : Nat → Bool} : ∀ {n : Nat}, (∀ k, k < n → ps k = qs k) → ctb ps n = ctb qs n
  | 0, _ => rfl
  | n + 1, h => by
    simp only [ctb]
    rw [ctb_cong (fun k hk => h k (by omega)), h n (by omega)]
theorem ctb_up {ps : Nat → Bool} {f : Nat} : ∀ {n : Nat}, f < n → ps f = false → ctb (up1 ps f true) n = ctb ps n + 1
  | 0, h, _ => absurd h (Nat.not_lt_zero f)
  | n + 1, h, hf => by
    simp only [ctb]
    by_cases e : f = n
    · subst e
      rw [up1_s, hf, ctb_cong (qs := ps) (fun k hk => up1_n (by omega))]
      rfl
    · rw [ctb_up (by omega) hf, up1_n (by omega)]; omega
theorem ctb_ext (ps : Nat → Bool) (n : Nat) : ctb (up1 ps n false) (n + 1) = ctb ps n := by
  simp only [ctb]
  rw [up1_s, ctb_cong (qs := ps) (fun k hk => up1_n (by omega))]
  rfl
def isBr (nb : Nat) (bx by' : Nat → Nat) (i j : Nat) : Prop := ∃ k, k < nb ∧ bx k = i ∧ by' k = j
/-- where each term of the border comes from -/
def bdFrom (n : Nat) (sx sy bx by' : Nat → Nat) (bl : Nat → Int) (un : Nat → Nat) (k : Nat) : Prop := (bl k = -1 ∧ bx k = 0 ∧ by' k = 0) ∨ ∃ s, s < n ∧ bl k = (s : Int) ∧ ((un k = 0 ∧ bx k = sx s + 1 ∧ by' k = sy s) ∨ (un k = 1 ∧ bx k = sx s ∧ by' k = sy s + 1))
def WP {p : Nat} [NeZero p] (A B : Nat) (F G : Nat → Nat → Fin p) (o u v n : Nat) (sx sy : Nat → Nat) (nm : Nat) (mx my : Nat → Nat) (tl ρ σ : Nat → Nat → Fin p) (π : Nat → Nat) (nb : Nat) (bx by' : Nat → Nat) (bl : Nat → Int) (un : Nat → Nat) (ps : Nat → Bool) (ex : Nat) : Prop :=
  WI (ky1 o u v) (ky2 o) (Nn A B F G) n sx sy nm mx my ∧ Ech (fun k d => Nn A B F G (sx k) (sy k) d) ρ σ π n ∧ (∀ r, r < n → π r < A * B) ∧ (∀ k, k < nm → (∀ d, Nn A B F G (mx k) (my k) d + comb (Nn A B F G) sx sy n (tl k) d = 0) ∧ ∀ t, n ≤ t → tl k t = 0) ∧ (1 ≤ nb ∧ nb ≤ 1 + 2 * n) ∧ (∀ k, k < nb → bdFrom n sx sy bx by' bl un k) ∧ (∀ i j, isBd n sx sy i j → isBr nb bx by' i j) ∧ (∀ k l, k < nb → l < nb → bx k = bx l → by' k = by' l → k = l) ∧ (∀ k, k < nb → k ≠ ex → ps k = true → isSt n sx sy (bx k) (by' k) ∨ isMu nm mx my (bx k) (by' k)) ∧ (∀ s, s < n → ∃ k, k < nb ∧ k ≠ ex ∧ ps k = true ∧ bx k = sx s ∧ by' k = sy s)
/-- the next of the border -/
theorem WP.nx {p : Nat} [NeZero p] {A B : Nat} {F G : Nat → Nat → Fin p} {o u v n : Nat} {sx sy : Nat → Nat} {nm : Nat} {mx my : Nat → Nat} {tl ρ σ : Nat → Nat → Fin p} {π : Nat → Nat} {nb : Nat} {bx by' : Nat → Nat} {bl : Nat → Int} {un : Nat → Nat} {ps : Nat → Bool} {ex f : Nat} (h : WP A B F G o u v n sx sy nm mx my tl ρ σ π nb bx by' bl un ps ex) (hex : nb ≤ ex) (hf : f < nb) (hpf : ps f = false) (hl : ∀ k, k < nb → ps k = false → ¬ olt (ky1 o u v) (ky2 o) (bx k) (by' k) (bx f) (by' f)) (hm : ¬ isMu nm mx my (bx f) (by' f)) : isNx (ky1 o u v) (ky2 o) n sx sy nm mx my (bx f) (by' f) := by
  obtain ⟨h1, h2, h3, h4, h5, h6, h7, h8, h9, h10⟩ := h
  refine ⟨?_, hm, fun a b hab => ?_⟩
  · rintro ⟨s, s1, s2, s3⟩
    obtain ⟨k, k1, -, k2, k3, k4⟩ := h10 s s1
    have := h8 k f k1 hf (by rw [k3, s2]) (by rw [k4, s3])
    subst this
    rw [hpf] at k2; cases k2
  · obtain ⟨k, k1, k2, k3⟩ := h7 a b hab
    by_cases hp : ps k = true
    · rcases h9 k k1 (by omega) hp with q | q
      · rw [k2, k3] at q; exact Or.inl q
      · rw [k2, k3] at q; exact Or.inr (Or.inl q)
    · have hp : ps k = false := by cases q : ps k with | false => rfl | true => exact absurd q hp
      have := hl k k1 hp
      rw [k2, k3] at this
      exact Or.inr (Or.inr this)
/-- passing one -/
theorem WP.pass {p : Nat} [NeZero p] {A B : Nat} {F G : Nat → Nat → Fin p} {o u v n : Nat} {sx sy : Nat → Nat} {nm : Nat} {mx my : Nat → Nat} {tl ρ σ : Nat → Nat → Fin p} {π : Nat → Nat} {nb : Nat} {bx by' : Nat → Nat} {bl : Nat → Int} {un : Nat → Nat} {ps : Nat → Bool} {ex f : Nat} (h : WP A B F G o u v n sx sy nm mx my tl ρ σ π nb bx by' bl un ps ex) (hex : nb ≤ ex) (hf : f < nb) (hpf : ps f = false) : WP A B F G o u v n sx sy nm mx my tl ρ σ π nb bx by' bl un (up1 ps f true) f := by
  obtain ⟨h1, h2, h3, h4, h5, h6, h7, h8, h9, h10⟩ := h
  refine ⟨h1, h2, h3, h4, h5, h6, h7, h8, fun k hk hne hp => h9 k hk (by omega) (by rw [up1_n hne] at hp; exact hp), fun s hs => ?_⟩
  obtain ⟨k, k1, -, k2, k3, k4⟩ := h10 s hs
  have hne : k ≠ f := fun e => by rw [e, hpf] at k2; cases k2
  exact ⟨k, k1, hne, by rw [up1_n hne]; exact k2, k3, k4⟩
/-- a multiple of a member, passed over -/
theorem WP.skip {p : Nat} [NeZero p] {A B : Nat} {F G : Nat → Nat → Fin p} {o u v n : Nat} {sx sy : Nat → Nat} {nm : Nat} {mx my : Nat → Nat} {tl ρ σ : Nat → Nat → Fin p} {π : Nat → Nat} {nb : Nat} {bx by' : Nat → Nat} {bl : Nat → Int} {un : Nat → Nat} {ps : Nat → Bool} {f : Nat} (h : WP A B F G o u v n sx sy nm mx my tl ρ σ π nb bx by' bl un ps f) (hb : nb ≤ 1000) (hm : isMu nm mx my (bx f) (by' f)) : WP A B F G o u v n sx sy nm mx my tl ρ σ π nb bx by' bl un ps 1000 := by
  obtain ⟨h1, h2, h3, h4, h5, h6, h7, h8, h9, h10⟩ := h
  refine ⟨h1, h2, h3, h4, h5, h6, h7, h8, fun k hk hne hp => ?_, fun s hs => ?_⟩
  · by_cases e : k = f
    · subst e; exact Or.inr hm
    · exact h9 k hk e hp
  · obtain ⟨k, k1, k0, k2, k3, k4⟩ := h10 s hs
    exact ⟨k, k1, by omega, k2, k3, k4⟩
