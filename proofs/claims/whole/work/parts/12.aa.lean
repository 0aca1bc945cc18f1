/-! roots: the numbers of the terms at a root; no more roots than stairs -/
theorem fpw_add {p : Nat} [NeZero p] (a : Fin p) (m : Nat) : ∀ n, fpw a (m + n) = fpw a m * fpw a n
  | 0 => by
    show fpw a m = fpw a m * 1
    grind
  | n + 1 => by
    show fpw a (m + n) * a = fpw a m * (fpw a n * a)
    rw [fpw_add a m n]; grind
def zR {p : Nat} [NeZero p] (a b : Fin p) (i j : Nat) : Fin p := fpw a i * fpw b j
theorem zR_F {p : Nat} [NeZero p] {A : Nat} {F : Nat → Nat → Fin p} {a b : Fin p} (h : evF A F a b = 0) (i j : Nat) (hi : A ≤ i) : zR a b i j = - dd F A (fun k l => zR a b (i - A + k) (j + l)) := by
  unfold evF at h
  have e1 : dd F A (fun k l => zR a b (i - A + k) (j + l)) = dd F A (fun k l => fpw a (i - A) * fpw b j * (fpw a k * fpw b l)) := dd_cong (fun k l _ => by
    unfold zR
    rw [fpw_add, fpw_add]; grind)
  rw [e1, dd_mul]
  have e2 : fpw a i = fpw a (i - A) * fpw a A := by rw [← fpw_add, show i - A + A = i by omega]
  unfold zR
  rw [e2]
  grind
theorem zR_G {p : Nat} [NeZero p] {B : Nat} {G : Nat → Nat → Fin p} {a b : Fin p} (h : evG B G a b = 0) (i j : Nat) (hj : B ≤ j) : zR a b i j = - dd G B (fun k l => zR a b (i + k) (j - B + l)) := by
  unfold evG at h
  have e1 : dd G B (fun k l => zR a b (i + k) (j - B + l)) = dd G B (fun k l => fpw a i * fpw b (j - B) * (fpw a k * fpw b l)) := dd_cong (fun k l _ => by
    unfold zR
    rw [fpw_add, fpw_add]; grind)
  rw [e1, dd_mul]
  have e2 : fpw b j = fpw b (j - B) * fpw b B := by rw [← fpw_add, show j - B + B = j by omega]
  unfold zR
  rw [e2]
  grind
theorem zR_N {p : Nat} [NeZero p] {A B : Nat} {F G : Nat → Nat → Fin p} {a b : Fin p} (hF : evF A F a b = 0) (hG : evG B G a b = 0) (i j : Nat) : mulZ A B (zR a b) (Nn A B F G i j) = zR a b i j := mulZ_N (zR a b) (zR_F hF) (zR_G hG) (i + j + 1) i j (Nat.lt_succ_self _)
theorem mulZ_0 {p : Nat} [NeZero p] (A B : Nat) (z : Nat → Nat → Fin p) : mulZ A B z (fun _ => 0) = 0 := su_zero' (fun j _ => su_zero' (fun i _ => r_0m _))
/-- a least polynomial is 0 at each root -/
theorem lp_root {p : Nat} [NeZero p] {A B : Nat} {F G : Nat → Nat → Fin p} {a b : Fin p} (hF : evF A F a b = 0) (hG : evG B G a b = 0) {w h : Nat} {c : Nat → Fin p} (hl : LPZ (ZL A B F G w) h c) : su (fun k => c k * fpw (if w = 0 then a else b) k) (h + 1) = 0 := by
  have e : (fun d => su (fun k => c k * ZL A B F G w k d) (h + 1)) = fun _ => 0 := funext hl.2.1
  have e2 := mulZ_su A B (zR a b) c (fun k d => ZL A B F G w k d) (h + 1)
  rw [e, mulZ_0] at e2
  rw [e2]
  refine su_cong (fun k _ => ?_)
  unfold ZL
  by_cases q : w = 0
  · simp only [if_pos q]
    have := zR_N hF hG k 0
    rw [show (fun d => Nn A B F G k 0 d) = Nn A B F G k 0 from rfl, this]
    unfold zR
    show c k * fpw a k = c k * (fpw a k * 1)
    grind
  · simp only [if_neg q]
    have := zR_N hF hG 0 k
    rw [show (fun d => Nn A B F G 0 k d) = Nn A B F G 0 k from rfl, this]
    unfold zR
    show c k * fpw b k = c k * (1 * fpw b k)
    grind
theorem fin_inv {p : Nat} [NeZero p] (hpr : p ∈ PrL) {a : Fin p} (h : a ≠ 0) : ∃ s : Fin p, s * a = 1 := by
  obtain ⟨k, k1, k2, k3, -⟩ := inv_ex hpr a.isLt (by
    rcases Nat.eq_zero_or_pos a.val with w | w
    · exact absurd (Fin.ext (by rw [w]; simp)) h
    · exact w)
  exact ⟨fz p (k : Int), inv_fz (Pr_rng p hpr).1 k3⟩
/-- rows that tell nothing of each other are no more than their places -/
theorem ind_le {p : Nat} [NeZero p] (hpr : p ∈ PrL) {V : Nat → Nat → Fin p} {n D : Nat} (hz : ∀ k d, D ≤ d → V k d = 0) (hi : ∀ c : Nat → Fin p, (∀ d, su (fun k => c k * V k d) n = 0) → ∀ k, k < n → c k = 0) : n ≤ D := by
  have h01 : (0 : Fin p) ≠ 1 := fp_01 (Pr_rng p hpr).1
  have key : ∀ m, m ≤ n → ∃ (ρ σ : Nat → Nat → Fin p) (π : Nat → Nat), Ech V ρ σ π m ∧ ∀ r, r < m → π r < D := by
    intro m
    induction m with
    | zero => exact fun _ => ⟨fun _ _ => 0, fun _ _ => 0, fun _ => 0, Ech.zero .., fun r hr => absurd hr (Nat.not_lt_zero _)⟩
    | succ m ih =>
      intro hm
      obtain ⟨ρ, σ, π, hE, hπ⟩ := ih (by omega)
      have ex : ∃ q, red ρ π m (V m) q ≠ 0 := by
        apply Classical.byContradiction
        intro hno
        have hall : ∀ d, red ρ π m (V m) d = 0 := fun d => Classical.byContradiction (fun w => hno ⟨d, w⟩)
        have := hi (fun k => if k < m then shr ρ σ π m (V m) k else if k = m then -1 else 0) (fun d => by
          have e1 := hE.tell hall d
          have e2 := su_split (fun k => (if k < m then shr ρ σ π m (V m) k else if k = m then -1 else 0) * V k d) (m + 1) (n - (m + 1))
          rw [show m + 1 + (n - (m + 1)) = n by omega] at e2
          rw [e2, su_zero' (f := fun i => (if m + 1 + i < m then shr ρ σ π m (V m) (m + 1 + i) else if m + 1 + i = m then -1 else 0) * V (m + 1 + i) d) (fun k _ => by rw [if_neg (by omega), if_neg (by omega), r_0m]), r_a0]
          show su (fun k => (if k < m then shr ρ σ π m (V m) k else if k = m then -1 else 0) * V k d) m + (if m < m then shr ρ σ π m (V m) m else if m = m then -1 else 0) * V m d = 0
          rw [if_neg (Nat.lt_irrefl m), if_pos rfl, su_cong (g := fun k => shr ρ σ π m (V m) k * V k d) (fun k hk => by rw [if_pos hk]), ← e1]
          grind) m (by omega)
        simp only [if_neg (Nat.lt_irrefl m), if_true] at this
        exact h01 (by grind)
      obtain ⟨q, hq⟩ := ex
      have hqD : q < D := by
        rcases Nat.lt_or_ge q D with w | w
        · exact w
        · exfalso
          have e := red_shr (π := π) (v := V m) (n := m) hE.2.2.1 q
          rw [hz m q w, su_zero' (fun k _ => by rw [hz k q w, r_m0]), r_a0] at e
          exact hq e.symm
      obtain ⟨s, hs⟩ := fin_inv hpr hq
      refine ⟨up1 ρ m (fun d => s * red ρ π m (V m) d), up1 σ m (fun k => if k = m then s else - (s * shr ρ σ π m (V m) k)), up1 π m q, hE.add (v := V m) (q := q) (s := s) hs (fun k _ => rfl) rfl (fun k hk => up1_n (by omega)) (fun d => by rw [up1_s]) (fun k hk => up1_n (by omega)) (fun k => by rw [up1_s]) (fun k hk => up1_n (by omega)) (up1_s ..), fun r hr => ?_⟩
      by_cases e : r = m
      · rw [e, up1_s]; exact hqD
      · rw [up1_n e]; exact hπ r (by omega)
  obtain ⟨ρ, σ, π, hE, hπ⟩ := key n (Nat.le_refl n)
  exact fb_holes D n π hπ (fun i j hij hj => hE.pinj h01 hij hj)
def TZ {p : Nat} [NeZero p] (a b : Nat → Fin p) (n : Nat) (c : Nat → Fin p) : Prop := ∀ i j, su (fun k => c k * (fpw (a k) i * fpw (b k) j)) n = 0
theorem TZ.x {p : Nat} [NeZero p] {a b : Nat → Fin p} {n : Nat} {c : Nat → Fin p} (h : TZ a b n c) (t : Fin p) : TZ a b n (fun k => c k * (a k - t)) := by
  intro i j
  have e : su (fun k => c k * (a k - t) * (fpw (a k) i * fpw (b k) j)) n = su (fun k => c k * (fpw (a k) (i + 1) * fpw (b k) j) + (-t) * (c k * (fpw (a k) i * fpw (b k) j))) n := su_cong (fun k _ => by
    show _ = c k * (fpw (a k) i * a k * fpw (b k) j) + _
    grind)
  rw [e, su_add, su_mul, h (i + 1) j, h i j]
  grind
theorem TZ.y {p : Nat} [NeZero p] {a b : Nat → Fin p} {n : Nat} {c : Nat → Fin p} (h : TZ a b n c) (t : Fin p) : TZ a b n (fun k => c k * (b k - t)) := by
  intro i j
  have e : su (fun k => c k * (b k - t) * (fpw (a k) i * fpw (b k) j)) n = su (fun k => c k * (fpw (a k) i * fpw (b k) (j + 1)) + (-t) * (c k * (fpw (a k) i * fpw (b k) j))) n := su_cong (fun k _ => by
    show _ = c k * (fpw (a k) i * (fpw (b k) j * b k)) + _
    grind)
  rw [e, su_add, su_mul, h i (j + 1), h i j]
  grind
theorem TZ.none {p : Nat} [NeZero p] (hpr : p ∈ PrL) {a b : Nat → Fin p} {n : Nat} {c : Nat → Fin p} (h : TZ a b n c) (hd : ∀ k l, k < n → l < n → a k = a l → b k = b l → k = l) {m : Nat} (hm : m < n) : c m = 0 := by
  have key : ∀ L, L ≤ n → ∃ c' : Nat → Fin p, TZ a b n c' ∧ (∀ l, l < L → l ≠ m → c' l = 0) ∧ ∃ u, u * c' m = c m := by
    intro L
    induction L with
    | zero => exact fun _ => ⟨c, h, fun l hl => absurd hl (Nat.not_lt_zero _), 1, r_1m _⟩
    | succ L ih =>
      intro hL
      obtain ⟨c', h1, h2, u, h3⟩ := ih (by omega)
      by_cases e : L = m
      · exact ⟨c', h1, fun l hl hne => h2 l (by omega) hne, u, h3⟩
      · by_cases ea : a L = a m
        · have hb : b m - b L ≠ 0 := fun w => e (hd L m (by omega) hm ea (by grind))
          obtain ⟨s, hs⟩ := fin_inv hpr hb
          refine ⟨fun k => c' k * (b k - b L), h1.y (b L), fun l hl hne => ?_, u * s, ?_⟩
          · show c' l * (b l - b L) = 0
            by_cases q : l = L
            · rw [q]; grind
            · rw [h2 l (by omega) hne, r_0m]
          · show u * s * (c' m * (b m - b L)) = c m
            have : u * s * (c' m * (b m - b L)) = (s * (b m - b L)) * (u * c' m) := by grind
            rw [this, hs, h3, r_1m]
        · have hb : a m - a L ≠ 0 := fun w => ea (by grind)
          obtain ⟨s, hs⟩ := fin_inv hpr hb
          refine ⟨fun k => c' k * (a k - a L), h1.x (a L), fun l hl hne => ?_, u * s, ?_⟩
          · show c' l * (a l - a L) = 0
            by_cases q : l = L
            · rw [q]; grind
            · rw [h2 l (by omega) hne, r_0m]
          · show u * s * (c' m * (a m - a L)) = c m
            have : u * s * (c' m * (a m - a L)) = (s * (a m - a L)) * (u * c' m) := by grind
            rw [this, hs, h3, r_1m]
  obtain ⟨c', h1, h2, u, h3⟩ := key n (Nat.le_refl n)
  have e := h1 0 0
  rw [su_one (i := m) _ hm (fun k hk hne => by rw [h2 k hk hne, r_0m])] at e
  have e : c' m * (1 * 1) = 0 := e
  rw [← h3]
  have e2 : c' m = 0 := by grind
  rw [e2, r_m0]
/-- no more roots than stairs -/
theorem roots_le {p : Nat} [NeZero p] (hpr : p ∈ PrL) {A B : Nat} (hA : 1 ≤ A) {F G : Nat → Nat → Fin p} {n : Nat} {rx ry : Nat → Nat} (hr : ∀ k, k < n → isRt A B F G (rx k) (ry k)) (hd : ∀ k l, k < l → l < n → rx k < rx l ∨ rx k = rx l ∧ ry k < ry l) : n ≤ A * B := by
  let a : Nat → Fin p := fun k => fz p (rx k : Int)
  let b : Nat → Fin p := fun k => fz p (ry k : Int)
  have hval : ∀ {x : Nat}, x < p → (fz p (x : Int)).val = x := fun h => by rw [fz_nat]; exact Nat.mod_eq_of_lt h
  have hinj : ∀ k l, k < n → l < n → a k = a l → b k = b l → k = l := fun k l hk hl e1 e2 => by
    have k1 := hr k hk
    have l1 := hr l hl
    have w1 : rx k = rx l := by
      have := congrArg Fin.val e1
      rw [show (a k).val = rx k from hval k1.1, show (a l).val = rx l from hval l1.1] at this
      exact this
    have w2 : ry k = ry l := by
      have := congrArg Fin.val e2
      rw [show (b k).val = ry k from hval k1.2.1, show (b l).val = ry l from hval l1.2.1] at this
      exact this
    rcases Nat.lt_trichotomy k l with q | q | q
    · have := hd k l q hl; omega
    · exact q
    · have := hd l k q hk; omega
  refine ind_le hpr (V := fun k d => if d < A * B then zR (a k) (b k) (d % A) (d / A) else 0) (fun k d hd => if_neg (by omega)) (fun c hc m hm => ?_)
  have T : TZ a b n c := by
    intro i j
    have e1 : ∀ k, k < n → fpw (a k) i * fpw (b k) j = su (fun d => Nn A B F G i j d * zR (a k) (b k) (d % A) (d / A)) (A * B) := fun k hk => by
      have := zR_N (hr k hk).2.2.1 (hr k hk).2.2.2 i j
      rw [su_flat]
      refine Eq.trans this.symm ?_
      unfold mulZ
      exact su_cong (fun j' _ => su_cong (fun i' hi' => by rw [(dm_1 hi').1, (dm_1 hi').2]))
    have e2 : su (fun k => c k * (fpw (a k) i * fpw (b k) j)) n = su (fun k => su (fun d => Nn A B F G i j d * (c k * zR (a k) (b k) (d % A) (d / A))) (A * B)) n := su_cong (fun k hk => by
      rw [e1 k hk, ← su_mul]
      exact su_cong (fun d _ => by grind))
    rw [e2, su_swap]
    refine su_zero' (fun d hd => ?_)
    rw [su_mul]
    have e3 := hc d
    simp only [if_pos hd] at e3
    rw [e3, r_m0]
  exact T.none hpr hinj hm
