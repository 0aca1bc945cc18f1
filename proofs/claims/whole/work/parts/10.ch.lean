/-! the walk of the reference: what holds of stairs, members and the waiting -/
def WQ {p : Nat} [NeZero p] (A B : Nat) (F G : Nat → Nat → Fin p) (o u v n : Nat) (sx sy : Nat → Nat) (nm : Nat) (mx my : Nat → Nat) (tl ρ σ : Nat → Nat → Fin p) (π : Nat → Nat) (w : Nat) (wx wy : Nat → Nat) (E : Nat → Nat → Prop) : Prop :=
  WI (ky1 o u v) (ky2 o) (Nn A B F G) n sx sy nm mx my ∧ Ech (fun k d => Nn A B F G (sx k) (sy k) d) ρ σ π n ∧ (∀ r, r < n → π r < A * B) ∧ (∀ k, k < nm → (∀ d, Nn A B F G (mx k) (my k) d + comb (Nn A B F G) sx sy n (tl k) d = 0) ∧ ∀ t, n ≤ t → tl k t = 0) ∧ (∀ k, k < w → wx k + wy k ≤ n) ∧ (∀ k, k < n → sx k + sy k ≤ k) ∧ (∀ k, k < nm → mx k + my k ≤ n) ∧ ∀ i j, isBd n sx sy i j → isSt n sx sy i j ∨ isMu nm mx my i j ∨ (∃ k, k < w ∧ wx k = i ∧ wy k = j) ∨ E i j
theorem WQ.nx {p : Nat} [NeZero p] {A B : Nat} {F G : Nat → Nat → Fin p} {o u v n : Nat} {sx sy : Nat → Nat} {nm : Nat} {mx my : Nat → Nat} {tl ρ σ : Nat → Nat → Fin p} {π : Nat → Nat} {w : Nat} {wx wy : Nat → Nat} {f : Nat} (h : WQ A B F G o u v n sx sy nm mx my tl ρ σ π w wx wy (fun _ _ => False)) (hl : ∀ k, k < w → ¬ olt (ky1 o u v) (ky2 o) (wx k) (wy k) (wx f) (wy f)) (hm : ¬ isMu nm mx my (wx f) (wy f)) (hs : ¬ isSt n sx sy (wx f) (wy f)) : isNx (ky1 o u v) (ky2 o) n sx sy nm mx my (wx f) (wy f) := by
  refine ⟨hs, hm, fun a b hab => ?_⟩
  rcases h.2.2.2.2.2.2.2 a b hab with q | q | ⟨k, k1, k2, k3⟩ | q
  · exact Or.inl q
  · exact Or.inr (Or.inl q)
  · right; right
    rw [← k2, ← k3]; exact hl k k1
  · exact absurd q (fun q => q)
theorem WQ.pop {p : Nat} [NeZero p] {A B : Nat} {F G : Nat → Nat → Fin p} {o u v n : Nat} {sx sy : Nat → Nat} {nm : Nat} {mx my : Nat → Nat} {tl ρ σ : Nat → Nat → Fin p} {π : Nat → Nat} {w : Nat} {wx wy : Nat → Nat} {f : Nat} (h : WQ A B F G o u v n sx sy nm mx my tl ρ σ π (w + 1) wx wy (fun _ _ => False)) (hf : f < w + 1) : WQ A B F G o u v n sx sy nm mx my tl ρ σ π w (up1 wx f (wx w)) (up1 wy f (wy w)) (fun a b => a = wx f ∧ b = wy f) := by
  obtain ⟨h1, h2, h3, h4, h5, h6, h7, h8⟩ := h
  refine ⟨h1, h2, h3, h4, fun k hk => ?_, h6, h7, fun i j hij => ?_⟩
  · by_cases e : k = f
    · rw [e, up1_s, up1_s]; exact h5 w (by omega)
    · rw [up1_n e, up1_n e]; exact h5 k (by omega)
  · rcases h8 i j hij with q | q | ⟨k, k1, k2, k3⟩ | q
    · exact Or.inl q
    · exact Or.inr (Or.inl q)
    · right; right
      by_cases e : k = f
      · right; rw [← e]; exact ⟨k2.symm, k3.symm⟩
      · left
        by_cases e2 : k = w
        · exact ⟨f, by omega, by rw [up1_s, ← e2]; exact k2, by rw [up1_s, ← e2]; exact k3⟩
        · exact ⟨k, by omega, by rw [up1_n e]; exact k2, by rw [up1_n e]; exact k3⟩
    · exact absurd q (fun q => q)
theorem WQ.skip {p : Nat} [NeZero p] {A B : Nat} {F G : Nat → Nat → Fin p} {o u v n : Nat} {sx sy : Nat → Nat} {nm : Nat} {mx my : Nat → Nat} {tl ρ σ : Nat → Nat → Fin p} {π : Nat → Nat} {w : Nat} {wx wy : Nat → Nat} {i j : Nat} (h : WQ A B F G o u v n sx sy nm mx my tl ρ σ π w wx wy (fun a b => a = i ∧ b = j)) (hs : isSt n sx sy i j ∨ isMu nm mx my i j) : WQ A B F G o u v n sx sy nm mx my tl ρ σ π w wx wy (fun _ _ => False) := by
  obtain ⟨h1, h2, h3, h4, h5, h6, h7, h8⟩ := h
  refine ⟨h1, h2, h3, h4, h5, h6, h7, fun a b hab => ?_⟩
  rcases h8 a b hab with q | q | q | ⟨q1, q2⟩
  · exact Or.inl q
  · exact Or.inr (Or.inl q)
  · exact Or.inr (Or.inr (Or.inl q))
  · rw [q1, q2]
    exact hs.imp id Or.inl
theorem WQ.member {p : Nat} [NeZero p] {A B : Nat} {F G : Nat → Nat → Fin p} {o u v n : Nat} {sx sy : Nat → Nat} {nm : Nat} {mx my : Nat → Nat} {tl ρ σ : Nat → Nat → Fin p} {π : Nat → Nat} {w : Nat} {wx wy : Nat → Nat} {i j : Nat} (h : WQ A B F G o u v n sx sy nm mx my tl ρ σ π w wx wy (fun a b => a = i ∧ b = j)) (ho : OrdOK (ky1 o u v) (ky2 o)) (hn : isNx (ky1 o u v) (ky2 o) n sx sy nm mx my i j) (hij : i + j ≤ n) {c : Nat → Fin p} (hw : ∀ d, Nn A B F G i j d = comb (Nn A B F G) sx sy n c d) (hw0 : ∀ t, n ≤ t → c t = 0) : WQ A B F G o u v n sx sy (nm + 1) (up1 mx nm i) (up1 my nm j) (up1 tl nm (fun t => - c t)) ρ σ π w wx wy (fun _ _ => False) := by
  obtain ⟨h1, h2, h3, h4, h5, h6, h7, h8⟩ := h
  have up : ∀ i' j', isMu nm mx my i' j' → isMu (nm + 1) (up1 mx nm i) (up1 my nm j) i' j' := by
    rintro i' j' ⟨k, k1, k2, k3⟩
    exact ⟨k, by omega, by rw [up1_n (by omega)]; exact k2, by rw [up1_n (by omega)]; exact k3⟩
  refine ⟨h1.addM ho hn (fun k hk => ⟨up1_n (by omega), up1_n (by omega)⟩) (up1_s ..) (up1_s ..) hw, h2, h3, fun k hk => ?_, h5, h6, fun k hk => ?_, fun a b hab => ?_⟩
  · by_cases e : k = nm
    · subst e
      rw [up1_s, up1_s, up1_s]
      refine ⟨fun d => ?_, fun t ht => ?_⟩
      · rw [comb_neg, hw d]; exact r_an _
      · show - c t = 0
        rw [hw0 t ht]; exact r_n0
    · rw [up1_n e, up1_n e, up1_n e]
      exact h4 k (by omega)
  · by_cases e : k = nm
    · rw [e, up1_s, up1_s]; exact hij
    · rw [up1_n e, up1_n e]; exact h7 k (by omega)
  · rcases h8 a b hab with q | q | q | ⟨q1, q2⟩
    · exact Or.inl q
    · exact Or.inr (Or.inl (up _ _ q))
    · exact Or.inr (Or.inr (Or.inl q))
    · exact Or.inr (Or.inl ⟨nm, by omega, by rw [up1_s]; omega, by rw [up1_s]; omega⟩)
theorem WQ.stair {p : Nat} [NeZero p] {A B : Nat} {F G : Nat → Nat → Fin p} {o u v n : Nat} {sx sy : Nat → Nat} {nm : Nat} {mx my : Nat → Nat} {tl ρ σ : Nat → Nat → Fin p} {π : Nat → Nat} {w : Nat} {wx wy : Nat → Nat} {i j : Nat} (h : WQ A B F G o u v n sx sy nm mx my tl ρ σ π w wx wy (fun a b => a = i ∧ b = j)) (ho : OrdOK (ky1 o u v) (ky2 o)) (hn : isNx (ky1 o u v) (ky2 o) n sx sy nm mx my i j) (hij : i + j ≤ n) {q : Nat} {sc : Fin p} (hs : sc * red ρ π n (Nn A B F G i j) q = 1) (hq : q < A * B) : WQ A B F G o u v (n + 1) (up1 sx n i) (up1 sy n j) nm mx my tl (up1 ρ n (fun d => sc * red ρ π n (Nn A B F G i j) d)) (up1 σ n (fun k => if k = n then sc else - (sc * shr ρ σ π n (Nn A B F G i j) k))) (up1 π n q) (w + 2) (up1 (up1 wx w (i + 1)) (w + 1) i) (up1 (up1 wy w j) (w + 1) (j + 1)) (fun _ _ => False) := by
  obtain ⟨h1, h2, h3, h4, h5, h6, h7, h8⟩ := h
  have eq : ∀ k, k < n → up1 sx n i k = sx k ∧ up1 sy n j k = sy k := fun k hk => ⟨up1_n (by omega), up1_n (by omega)⟩
  have stm : ∀ a b, isSt n sx sy a b → isSt (n + 1) (up1 sx n i) (up1 sy n j) a b := fun a b hh => (isSt_succ eq a b).mpr (Or.inl hh)
  have old : ∀ k, k < w → up1 (up1 wx w (i + 1)) (w + 1) i k = wx k ∧ up1 (up1 wy w j) (w + 1) (j + 1) k = wy k := fun k hk => by
    rw [up1_n (by omega), up1_n (by omega), up1_n (by omega), up1_n (by omega)]; exact ⟨rfl, rfl⟩
  have e0 : up1 (up1 wx w (i + 1)) (w + 1) i w = i + 1 ∧ up1 (up1 wy w j) (w + 1) (j + 1) w = j := by
    rw [up1_n (show w ≠ w + 1 by omega), up1_n (show w ≠ w + 1 by omega), up1_s, up1_s]; exact ⟨rfl, rfl⟩
  have e1 : up1 (up1 wx w (i + 1)) (w + 1) i (w + 1) = i ∧ up1 (up1 wy w j) (w + 1) (j + 1) (w + 1) = j + 1 := by
    rw [up1_s, up1_s]; exact ⟨rfl, rfl⟩
  refine ⟨h1.addS ho hn eq (up1_s ..) (up1_s ..), ?_, fun r hr => ?_, fun k hk => ?_, fun k hk => ?_, fun k hk => ?_, fun k hk => by have := h7 k hk; omega, fun a b hab => ?_⟩
  · refine h2.add (v := Nn A B F G i j) (q := q) (s := sc) hs (fun k hk => ?_) ?_ (fun k hk => up1_n (by omega)) (fun d => by rw [up1_s]) (fun k hk => up1_n (by omega)) (fun k => by rw [up1_s]) (fun k hk => up1_n (by omega)) (up1_s ..)
    · show (fun d => Nn A B F G _ _ d) = _
      rw [(eq k hk).1, (eq k hk).2]
    · show (fun d => Nn A B F G _ _ d) = _
      rw [up1_s, up1_s]
  · by_cases e : r = n
    · rw [e, up1_s]; exact hq
    · rw [up1_n e]; exact h3 r (by omega)
  · obtain ⟨m1, m2⟩ := h4 k hk
    refine ⟨fun d => ?_, fun t ht => m2 t (by omega)⟩
    have e : tl k = fun l => if l < n then tl k l else 0 := by
      funext l
      by_cases q : l < n
      · rw [if_pos q]
      · rw [if_neg q]; exact m2 l (by omega)
    rw [e, comb_ext eq (tl k) d]
    exact m1 d
  · by_cases c : k < w
    · rw [(old k c).1, (old k c).2]; have := h5 k c; omega
    · by_cases c2 : k = w
      · rw [c2, e0.1, e0.2]; omega
      · rw [show k = w + 1 by omega, e1.1, e1.2]; omega
  · by_cases e : k = n
    · rw [e, up1_s, up1_s]; exact hij
    · rw [up1_n e, up1_n e]; exact h6 k (by omega)
  · have cov : isBd n sx sy a b → isSt (n + 1) (up1 sx n i) (up1 sy n j) a b ∨ isMu nm mx my a b ∨ (∃ k, k < w + 2 ∧ up1 (up1 wx w (i + 1)) (w + 1) i k = a ∧ up1 (up1 wy w j) (w + 1) (j + 1) k = b) ∨ False := fun q => by
      rcases h8 a b q with q | q | ⟨k, k1, k2, k3⟩ | ⟨q1, q2⟩
      · exact Or.inl (stm _ _ q)
      · exact Or.inr (Or.inl q)
      · exact Or.inr (Or.inr (Or.inl ⟨k, by omega, by rw [(old k k1).1]; exact k2, by rw [(old k k1).2]; exact k3⟩))
      · exact Or.inl ⟨n, by omega, by rw [up1_s]; exact q1.symm, by rw [up1_s]; exact q2.symm⟩
    rcases hab with q | ⟨k, hk, g1, g2⟩ | ⟨k, hk, g1, g2⟩
    · exact cov (Or.inl q)
    · by_cases e : k = n
      · rw [e, up1_s] at g1 g2
        exact Or.inr (Or.inr (Or.inl ⟨w, by omega, by rw [e0.1, g1], by rw [e0.2, g2]⟩))
      · rw [up1_n e] at g1 g2
        exact cov (Or.inr (Or.inl ⟨k, by omega, g1, g2⟩))
    · by_cases e : k = n
      · rw [e, up1_s] at g1 g2
        exact Or.inr (Or.inr (Or.inl ⟨w + 1, by omega, by rw [e1.1, g1], by rw [e1.2, g2]⟩))
      · rw [up1_n e] at g1 g2
        exact cov (Or.inr (Or.inr ⟨k, by omega, g1, g2⟩))
theorem WQ.few {p : Nat} [NeZero p] (hp : 2 ≤ p) {A B : Nat} {F G : Nat → Nat → Fin p} {o u v n : Nat} {sx sy : Nat → Nat} {nm : Nat} {mx my : Nat → Nat} {tl ρ σ : Nat → Nat → Fin p} {π : Nat → Nat} {w : Nat} {wx wy : Nat → Nat} {E : Nat → Nat → Prop} (h : WQ A B F G o u v n sx sy nm mx my tl ρ σ π w wx wy E) : n ≤ A * B := fb_holes (A * B) n π h.2.2.1 (fun i j hij hj => h.2.1.pinj (fp_01 hp) hij hj)
theorem WQ.done {p : Nat} [NeZero p] (hp : 2 ≤ p) {A B : Nat} (hA : 1 ≤ A) {F G : Nat → Nat → Fin p} {o u v n : Nat} (ho : OrdOK (ky1 o u v) (ky2 o)) {sx sy : Nat → Nat} {nm : Nat} {mx my : Nat → Nat} {tl ρ σ : Nat → Nat → Fin p} {π : Nat → Nat} {wx wy : Nat → Nat} (h : WQ A B F G o u v n sx sy nm mx my tl ρ σ π 0 wx wy (fun _ _ => False)) : n = A * B ∧ BSt (ky1 o u v) (ky2 o) (Nn A B F G) n sx sy ∧ BMem (ky1 o u v) (ky2 o) (Nn A B F G) n sx sy nm mx my tl ∧ ∀ i j d, red ρ π n (Nn A B F G i j) d = 0 := by
  obtain ⟨h1, h2, h3, h4, h5, h6, h7, h8⟩ := h
  have ha : ∀ a b, isSt n sx sy a b ∨ isMu nm mx my a b := fun a b => nx_all (fun a b hab => by
    rcases h8 a b hab with q | q | ⟨k, k1, -⟩ | q
    · exact Or.inl q
    · exact Or.inr q
    · omega
    · exact absurd q (fun q => q)) (a + b + 1) a b (by omega)
  have hL := h1.lead ho ha
  have hS : BSt (ky1 o u v) (ky2 o) (Nn A B F G) n sx sy := ⟨fun c hc k hk => h2.ind (c := c) n (Nat.le_refl n) hc k hk, h1.1, hL⟩
  have hz : ∀ i j d, red ρ π n (Nn A B F G i j) d = 0 := fun i j d => by
    obtain ⟨c, hc, -⟩ := hS.le i j
    have e : Nn A B F G i j = fun d => su (fun k => c k * (fun k d => Nn A B F G (sx k) (sy k) d) k d) n := by
      funext d
      exact hc d
    rw [e, red_su]
    exact su_zero' (fun k hk => by rw [h2.2.2.2.2.1 k hk n hk (Nat.le_refl n) d]; exact r_m0 _)
  exact ⟨h2.full (fp_01 hp) h3 hz (by omega), hS, ⟨h1.2.1, fun k hk => h1.corner ho hk, fun i j hc => h1.corners ha hc, fun k hk => (h4 k hk).1, fun k hk => (h4 k hk).2⟩, hz⟩
theorem WQ.zero {p : Nat} [NeZero p] (A B : Nat) (F G : Nat → Nat → Fin p) (o u v : Nat) : WQ A B F G o u v 0 (fun _ => 0) (fun _ => 0) 0 (fun _ => 0) (fun _ => 0) (fun _ _ => 0) (fun _ _ => 0) (fun _ _ => 0) (fun _ => 0) 1 (fun _ => 0) (fun _ => 0) (fun _ _ => False) := by
  refine ⟨WI.zero .., Ech.zero .., fun r hr => absurd hr (Nat.not_lt_zero _), fun r hr => absurd hr (Nat.not_lt_zero _), fun _ _ => Nat.le_refl _, fun r hr => absurd hr (Nat.not_lt_zero _), fun r hr => absurd hr (Nat.not_lt_zero _), fun i j hij => ?_⟩
  rcases hij with ⟨q1, q2⟩ | ⟨k, hk, -⟩ | ⟨k, hk, -⟩
  · exact Or.inr (Or.inr (Or.inl ⟨0, by omega, q1.symm, q2.symm⟩))
  · omega
  · omega
