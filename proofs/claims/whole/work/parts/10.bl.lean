/-! the orders of the reference; which term leads -/
theorem ky1_lt {o u v i j : Nat} (hu : u ≤ 9) (hv : v ≤ 9) (hi : i < 2147483648) (hj : j < 2147483648) : ky1 o u v i j < 2 ^ 62 := by
  unfold ky1
  have a : u * i ≤ 9 * 2147483648 := Nat.mul_le_mul hu (by omega)
  have b : v * j ≤ 9 * 2147483648 := Nat.mul_le_mul hv (by omega)
  split
  · omega
  · split
    · omega
    · split <;> omega
theorem ky1_wt {o u v i j : Nat} (ho : o ≤ 4) (hi : i < 2147483648) (hj : j < 2147483648) : ky1 o u v i j < 2147483648 ↔ wt o u v i j < 2147483648 := by
  unfold ky1 wt
  rcases (show o = 0 ∨ o = 1 ∨ o = 2 ∨ o = 3 ∨ o = 4 by omega) with rfl | rfl | rfl | rfl | rfl
  · exact ⟨fun _ => by rw [if_neg (by omega), if_neg (by omega)]; omega, fun _ => hi⟩
  · exact ⟨fun _ => by rw [if_neg (by omega), if_neg (by omega)]; omega, fun _ => hj⟩
  · exact Iff.rfl
  · exact Iff.rfl
  · exact Iff.rfl
theorem m12_by {o u v i j : Nat} {M : smM} (ho : o ≤ 4) (hu : u ≤ 9) (hv : v ≤ 9) (hi : i < 2147483648) (hj : j < 2147483648) : m_X12_by (nI o) (nI i).toInt64 (nI j).toInt64 (nI u) (nI v) M = some (lN (ky1 o u v i j)) := by
  unfold m_X12_by ky1
  rw [l64 hi, l64 hj, l64 (show u < 2147483648 by omega), l64 (show v < 2147483648 by omega)]
  rcases (show o = 0 ∨ o = 1 ∨ o = 2 ∨ o = 3 ∨ o = 4 by omega) with rfl | rfl | rfl | rfl | rfl
  · rw [if_pos n_00]; rfl
  · rw [if_neg n_10, if_pos rfl]; rfl
  · rw [if_neg n_20, if_neg (by decide), if_neg (by decide), lN_add]; rfl
  · rw [if_neg (by decide), if_neg (by decide), if_neg (by decide), lN_add]; rfl
  · rw [if_neg (by decide), if_neg (by decide), if_pos rfl, lN_mul, lN_mul, lN_add]; rfl
theorem m12_isLess {o u v i j k l : Nat} {M : smM} (ho : o ≤ 4) (hu : u ≤ 9) (hv : v ≤ 9) (h0 : M 1000 26 = nI o) (h1 : M 1000 27 = nI u) (h2 : M 1000 28 = nI v) (hi : i < 2147483648) (hj : j < 2147483648) (hk : k < 2147483648) (hl : l < 2147483648) : (olt (ky1 o u v) (ky2 o) i j k l → m_X12_isLess 1000 (nI i) (nI j) (nI k) (nI l) M = some 1) ∧ (¬ olt (ky1 o u v) (ky2 o) i j k l → m_X12_isLess 1000 (nI i) (nI j) (nI k) (nI l) M = some 0) := by
  have c := lg_lN (ky1_lt (o := o) hu hv hi hj) (ky1_lt (o := o) hu hv hk hl)
  have key : m_X12_isLess 1000 (nI i) (nI j) (nI k) (nI l) M = if ky1 o u v i j = ky1 o u v k l then (if ky2 o i j < ky2 o k l then some 1 else some 0) else (if ky1 o u v i j < ky1 o u v k l then some 1 else some 0) := by
    unfold m_X12_isLess m_X12_isLess_j80
    rw [h0, h1, h2, m12_by ho hu hv hi hj, m12_by ho hu hv hk hl, Option.bind_some, Option.bind_some]
    by_cases e : ky1 o u v i j = ky1 o u v k l
    · rw [if_pos (c.1.mpr e), if_pos e]
      have ej : (if nI l ≤ nI j then some (0 : Int32) else some 1) = if j < l then some 1 else some 0 := by
        by_cases d : l ≤ j
        · rw [if_pos ((nI_le_iff (by omega) (by omega)).mpr d), if_neg (by omega)]
        · rw [if_neg (fun q => d ((nI_le_iff (by omega) (by omega)).mp q)), if_pos (by omega)]
      have ei : (if nI k ≤ nI i then some (0 : Int32) else some 1) = if i < k then some 1 else some 0 := by
        by_cases d : k ≤ i
        · rw [if_pos ((nI_le_iff (by omega) (by omega)).mpr d), if_neg (by omega)]
        · rw [if_neg (fun q => d ((nI_le_iff (by omega) (by omega)).mp q)), if_pos (by omega)]
      unfold ky2
      rcases (show o = 0 ∨ o = 1 ∨ o = 2 ∨ o = 3 ∨ o = 4 by omega) with rfl | rfl | rfl | rfl | rfl
      · rw [if_pos n_00, ej]; rfl
      · rw [if_neg n_10, if_neg (by decide), ei]; rfl
      · rw [if_neg n_20, if_neg (by decide), ei]; rfl
      · rw [if_neg (by decide), if_pos (show nI 3 = (3 : Int32) from rfl), ej]; rfl
      · rw [if_neg (by decide), if_neg (by decide), ei]; rfl
    · rw [if_neg (fun q => e (c.1.mp q)), if_neg e]
      by_cases d : ky1 o u v k l ≤ ky1 o u v i j
      · rw [if_pos (c.2.mpr d), if_neg (by omega)]
      · rw [if_neg (fun q => d (c.2.mp q)), if_pos (by omega)]
  rw [key]
  unfold olt
  constructor
  · rintro (q | ⟨q, q2⟩)
    · rw [if_neg (by omega), if_pos q]
    · rw [if_pos q, if_pos q2]
  · intro q
    by_cases e : ky1 o u v i j = ky1 o u v k l
    · rw [if_pos e, if_neg (fun w => q (Or.inr ⟨e, w⟩))]
    · rw [if_neg e, if_neg (fun w => q (Or.inl w))]
def MXI (o u v : Nat) (x y : Nat → Nat) (g n : Nat) : Prop := g < n ∧ ∀ l, l < n → ¬ olt (ky1 o u v) (ky2 o) (x g) (y g) (x l) (y l)
theorem MXI.one {o u v : Nat} {x y : Nat → Nat} {g g' n : Nat} (ho : OrdOK (ky1 o u v) (ky2 o)) (hd : ∀ k l, k < l → l < n → x l < x k ∨ x l = x k ∧ y l < y k) (h : MXI o u v x y g n) (h' : MXI o u v x y g' n) : g = g' := by
  rcases olt_tri ho (x g) (y g) (x g') (y g') with q | ⟨q1, q2⟩ | q
  · exact absurd q (h.2 g' h'.1)
  · rcases Nat.lt_trichotomy g g' with c | c | c
    · have := hd g g' c h'.1; omega
    · exact c
    · have := hd g' g c h.1; omega
  · exact absurd q (h'.2 g h.1)
theorem MXI.step {o u v : Nat} {x y : Nat → Nat} {g n : Nat} (h : MXI o u v x y g n) (q : ¬ olt (ky1 o u v) (ky2 o) (x g) (y g) (x n) (y n)) : MXI o u v x y g (n + 1) := by
  refine ⟨by have := h.1; omega, fun l hl => ?_⟩
  by_cases e : l = n
  · rw [e]; exact q
  · exact h.2 l (by omega)
theorem MXI.next {o u v : Nat} {x y : Nat → Nat} {g n : Nat} (h : MXI o u v x y g n) (q : olt (ky1 o u v) (ky2 o) (x g) (y g) (x n) (y n)) : MXI o u v x y n (n + 1) := by
  refine ⟨by omega, fun l hl w => ?_⟩
  by_cases e : l = n
  · rw [e] at w; exact olt_irr w
  · exact h.2 l (by omega) (olt_trans q w)
theorem MXI.start {o u v : Nat} {x y : Nat → Nat} : MXI o u v x y 0 1 := ⟨by omega, fun l hl w => by
  have : l = 0 := by omega
  rw [this] at w; exact olt_irr w⟩
theorem m_canCompare {q a n o u v L : Nat} {c x y : Nat → Nat} {M : smM} (l2 : smLn (q + 2) = L) (l3 : smLn (q + 3) = L) (hn : n ≤ L) (hL : L < 1000) (h : PO M q n c x y) (hb : ∀ k, k < n → x k < 2147483648 ∧ y k < 2147483648) (ho : o ≤ 4) (hu : u ≤ 9) (hv : v ≤ 9) (g0 : M a 0 = nI o) (g1 : M a 1 = nI u) (g2 : M a 2 = nI v) : ((∀ k, k < n → wt o u v (x k) (y k) < 2147483648) → m_X5_canCompare q a M = some 1) ∧ (¬ (∀ k, k < n → wt o u v (x k) (y k) < 2147483648) → m_X5_canCompare q a M = some 0) := by
  unfold m_X5_canCompare
  refine lp_post (ρ := Int32) n (fun k s => s = nI k ∧ ∀ l, l < k → wt o u v (x l) (y l) < 2147483648) (fun e => ((∀ k, k < n → wt o u v (x k) (y k) < 2147483648) → e = some 1) ∧ (¬ (∀ k, k < n → wt o u v (x k) (y k) < 2147483648) → e = some 0)) ⟨rfl, fun l hl => absurd hl (Nat.not_lt_zero l)⟩ (by omega) ?_
  rintro k s hk ⟨rfl, hI⟩
  by_cases e : k = n
  · right
    subst e
    refine ⟨some 1, ⟨fun _ => rfl, fun q => absurd hI q⟩, fun rc => ?_⟩
    unfold m_X5_canCompare_b2
    rw [h.1, if_pos ((nI_le_iff (by omega) (by omega)).mpr (Nat.le_refl k))]
  · obtain ⟨b1, b2⟩ := hb k (by omega)
    obtain ⟨p1, p2, p3⟩ := h.2 k (by omega)
    have hnle : ¬ nI n ≤ nI k := fun q => by rw [nI_le_iff (by omega) (by omega)] at q; omega
    have hw := wt_lt (o := o) hu hv b1 b2
    have ew : lg_cmp (lN (wt o u v (x k) (y k))) 2147483647 ≤ (0 : Int32) ↔ wt o u v (x k) (y k) < 2147483648 := by
      rw [lg_le0, show (2147483647 : Int64) = lN 2147483647 from rfl, lN_ltI (by omega) hw]; omega
    by_cases cx : wt o u v (x k) (y k) < 2147483648
    · left
      refine ⟨nI (k + 1), by omega, ⟨rfl, fun l hl => ?_⟩, fun rc => ?_⟩
      · by_cases el : l = k
        · rw [el]; exact cx
        · exact hI l (by omega)
      · unfold m_X5_canCompare_b2
        rw [h.1, if_neg hnle, cl_nI (n := k) (by omega), l2, l3, if_ck2 (by omega) (by omega), if_ck2 (by omega) (by omega), p2, p3, m_weight ho hu hv g0 g1 g2 b1 b2, Option.bind_some, if_pos (ew.mpr cx), nI_add_1]
    · right
      refine ⟨some 0, ⟨fun q => absurd (q k (by omega)) cx, fun _ => rfl⟩, fun rc => ?_⟩
      unfold m_X5_canCompare_b2
      rw [h.1, if_neg hnle, cl_nI (n := k) (by omega), l2, l3, if_ck2 (by omega) (by omega), if_ck2 (by omega) (by omega), p2, p3, m_weight ho hu hv g0 g1 g2 b1 b2, Option.bind_some, if_neg (fun q => cx (ew.mp q))]
theorem m_greatestIn {q a n o u v L : Nat} {c x y : Nat → Nat} {M : smM} (l2 : smLn (q + 2) = L) (l3 : smLn (q + 3) = L) (hn : n ≤ L) (hL : L < 1000) (h1n : 1 ≤ n) (h : PO M q n c x y) (hb : ∀ k, k < n → x k < 2147483648 ∧ y k < 2147483648) (ho : o ≤ 4) (hu : u ≤ 9) (hv : v ≤ 9) (hv1 : 1 ≤ v) (g0 : M a 0 = nI o) (g1 : M a 1 = nI u) (g2 : M a 2 = nI v) : ∃ g, m_X5_greatestIn q a M = some (nI g) ∧ MXI o u v x y g n := by
  unfold m_X5_greatestIn
  refine lp_post (ρ := Int32) (n - 1) (fun k s => ∃ g, s = (nI g, nI (k + 1)) ∧ MXI o u v x y g (k + 1)) (fun e => ∃ g, e = some (nI g) ∧ MXI o u v x y g n) ⟨0, rfl, MXI.start⟩ (by omega) ?_
  rintro k s hk ⟨g, rfl, hI⟩
  by_cases e : k = n - 1
  · right
    have en : k + 1 = n := by omega
    rw [en] at hI
    refine ⟨some (nI g), ⟨g, rfl, hI⟩, fun rc => ?_⟩
    show m_X5_greatestIn_b4 q a M rc (nI g) (nI (k + 1)) = _
    unfold m_X5_greatestIn_b4
    rw [h.1, en, if_pos ((nI_le_iff (by omega) (by omega)).mpr (Nat.le_refl n))]
  · left
    have hg := hI.1
    obtain ⟨b1, b2⟩ := hb g (by omega)
    obtain ⟨b3, b4⟩ := hb (k + 1) (by omega)
    obtain ⟨-, p2, p3⟩ := h.2 g (by omega)
    obtain ⟨-, p4, p5⟩ := h.2 (k + 1) (by omega)
    have hnle : ¬ nI n ≤ nI (k + 1) := fun q => by rw [nI_le_iff (by omega) (by omega)] at q; omega
    have cg : ∀ {ρ : Type} (T : Option ρ), (if nI g < 0 ∨ L ≤ g then none else T) = T := fun T => if_ck2 (by omega) (by omega) T
    have ck : ∀ {ρ : Type} (T : Option ρ), (if nI (k + 1) < 0 ∨ L ≤ k + 1 then none else T) = T := fun T => if_ck2 (by omega) (by omega) T
    have hl := m_isLess ho hu hv hv1 g0 g1 g2 b1 b2 b3 b4
    by_cases w : olt (ky1 o u v) (ky2 o) (x g) (y g) (x (k + 1)) (y (k + 1))
    · refine ⟨(nI (k + 1), nI (k + 1 + 1)), by omega, ⟨k + 1, rfl, hI.next w⟩, fun rc => ?_⟩
      show m_X5_greatestIn_b4 q a M rc (nI g) (nI (k + 1)) = _
      unfold m_X5_greatestIn_b4
      rw [h.1, if_neg hnle, cl_nI (n := g) (by omega), cl_nI (n := k + 1) (by omega), l2, l3, cg, cg, ck, ck, p2, p3, p4, p5, hl.1 w, Option.bind_some, if_1, nI_add_1]
    · refine ⟨(nI g, nI (k + 1 + 1)), by omega, ⟨g, rfl, hI.step w⟩, fun rc => ?_⟩
      show m_X5_greatestIn_b4 q a M rc (nI g) (nI (k + 1)) = _
      unfold m_X5_greatestIn_b4
      rw [h.1, if_neg hnle, cl_nI (n := g) (by omega), cl_nI (n := k + 1) (by omega), l2, l3, cg, cg, ck, ck, p2, p3, p4, p5, hl.2 w, Option.bind_some, if_0, nI_add_1]
theorem m12_leadl {s n o u v : Nat} {c x y : Nat → Nat} {M : smM} (hs : s < 4) (hn : n ≤ 8) (h0 : M 1003 s = nI n) (h : ∀ k, k < n → M 1004 (8 * s + k) = nI (c k) ∧ M 1005 (8 * s + k) = nI (x k) ∧ M 1006 (8 * s + k) = nI (y k)) (hb : ∀ k, k < n → x k < 2147483648 ∧ y k < 2147483648) (ho : o ≤ 4) (hu : u ≤ 9) (hv : v ≤ 9) (u3 : M 1000 3 = nI u) (v4 : M 1000 4 = nI v) (g0 : M 1000 26 = nI o) (g1 : M 1000 27 = nI u) (g2 : M 1000 28 = nI v) : ((∀ k, k < n → ky1 o u v (x k) (y k) < 2147483648) → (n = 0 → smLp (fun rc q => m_X12_leads_b58 1000 (nI s) (nI o) M rc q.1 q.2) smF ((-4 : Int32), (0 : Int32)) = some (-4, M)) ∧ (1 ≤ n → ∃ g, smLp (fun rc q => m_X12_leads_b58 1000 (nI s) (nI o) M rc q.1 q.2) smF ((-4 : Int32), (0 : Int32)) = some (nI g, M) ∧ MXI o u v x y g n)) ∧ (¬ (∀ k, k < n → ky1 o u v (x k) (y k) < 2147483648) → smLp (fun rc q => m_X12_leads_b58 1000 (nI s) (nI o) M rc q.1 q.2) smF ((-4 : Int32), (0 : Int32)) = some (-13, M)) := by
  have ck4 : ∀ {ρ : Type} (T : Option ρ), (if nI s < 0 ∨ 4 ≤ s then none else T) = T := fun T => if_ck2 (by omega) (by omega) T
  have e8 : ∀ k, (8 : Int32) * nI s + nI k = nI (8 * s + k) := fun k => by rw [show (8 : Int32) = nI 8 from rfl, jI_nI, jI_nI, jI_nI, jI_nI, jI_mul, jI_add]; congr 1
  refine lp_post (ρ := Int32 × smM) n (fun k w => (∀ l, l < k → ky1 o u v (x l) (y l) < 2147483648) ∧ ((k = 0 ∧ w = ((-4 : Int32), nI k)) ∨ ∃ g, w = (nI g, nI k) ∧ MXI o u v x y g k)) (fun e => ((∀ k, k < n → ky1 o u v (x k) (y k) < 2147483648) → (n = 0 → e = some (-4, M)) ∧ (1 ≤ n → ∃ g, e = some (nI g, M) ∧ MXI o u v x y g n)) ∧ (¬ (∀ k, k < n → ky1 o u v (x k) (y k) < 2147483648) → e = some (-13, M))) ⟨fun l hl => absurd hl (Nat.not_lt_zero l), Or.inl ⟨rfl, rfl⟩⟩ (by omega) ?_
  rintro k w hk ⟨hI, hw⟩
  by_cases e : k = n
  · right
    subst e
    have eb : ∀ (rc : Int32 × Int32 → Option (Int32 × smM)) (z : Int32), m_X12_leads_b58 1000 (nI s) (nI o) M rc z (nI k) = some (z, M) := fun rc z => by
      unfold m_X12_leads_b58
      rw [cl_nI (n := s) (by omega), show smLn (1000 + 3) = 4 from g_1003, ck4, show M (1000 + 3) s = nI k from h0, if_pos ((nI_le_iff (by omega) (by omega)).mpr (Nat.le_refl k))]
    rcases hw with ⟨k0, rfl⟩ | ⟨g, rfl, hg⟩
    · exact ⟨some (-4, M), ⟨fun _ => ⟨fun _ => rfl, fun q => by omega⟩, fun q => absurd hI q⟩, fun rc => eb rc (-4)⟩
    · exact ⟨some (nI g, M), ⟨fun _ => ⟨fun q => by have := hg.1; omega, fun _ => ⟨g, rfl, hg⟩⟩, fun q => absurd hI q⟩, fun rc => eb rc (nI g)⟩
  · obtain ⟨b1, b2⟩ := hb k (by omega)
    obtain ⟨-, p2, p3⟩ := h k (by omega)
    have hnle : ¬ nI n ≤ nI k := fun q => by rw [nI_le_iff (by omega) (by omega)] at q; omega
    have ck : ∀ {ρ : Type} (T : Option ρ), (if nI (8 * s + k) < 0 ∨ 32 ≤ 8 * s + k then none else T) = T := fun T => if_ck2 (by omega) (by omega) T
    have hw2 := ky1_lt (o := o) hu hv b1 b2
    have ew : lg_cmp (lN (ky1 o u v (x k) (y k))) 2147483647 ≤ (0 : Int32) ↔ ky1 o u v (x k) (y k) < 2147483648 := by
      rw [lg_le0, show (2147483647 : Int64) = lN 2147483647 from rfl, lN_ltI (by omega) hw2]; omega
    have eb : ∀ (rc : Int32 × Int32 → Option (Int32 × smM)) (z : Int32), m_X12_leads_b58 1000 (nI s) (nI o) M rc z (nI k) = if lg_cmp (lN (ky1 o u v (x k) (y k))) 2147483647 ≤ (0 : Int32) then (if z = -4 then rc (nI k, nI k + 1) else (if (8 * nI s + z) < 0 ∨ 32 ≤ (8 * nI s + z).toNatClampNeg then none else if (8 * nI s + z) < 0 ∨ 32 ≤ (8 * nI s + z).toNatClampNeg then none else Option.bind (m_X12_isLess 1000 (M 1005 (8 * nI s + z).toNatClampNeg) (M 1006 (8 * nI s + z).toNatClampNeg) (nI (x k)) (nI (y k)) M) fun v162 => if v162 = 0 then rc (z, nI k + 1) else rc (nI k, nI k + 1))) else some (-13, M) := fun rc z => by
      unfold m_X12_leads_b58
      rw [cl_nI (n := s) (by omega), show smLn (1000 + 3) = 4 from g_1003, ck4, show M (1000 + 3) s = nI n from h0, if_neg hnle, e8 k, cl_nI (n := 8 * s + k) (by omega), show smLn (1000 + 5) = 32 from g_1005, show smLn (1000 + 6) = 32 from g_1006]
      simp only [ck]
      rw [show M (1000 + 5) (8 * s + k) = nI (x k) from p2, show M (1000 + 6) (8 * s + k) = nI (y k) from p3, show M 1000 3 = nI u from u3, v4, m12_by ho hu hv b1 b2, Option.bind_some]
    by_cases cx : ky1 o u v (x k) (y k) < 2147483648
    · left
      have hI' : ∀ l, l < k + 1 → ky1 o u v (x l) (y l) < 2147483648 := fun l hl => by
        by_cases el : l = k
        · rw [el]; exact cx
        · exact hI l (by omega)
      rcases hw with ⟨k0, rfl⟩ | ⟨g, rfl, hg⟩
      · refine ⟨(nI k, nI (k + 1)), by omega, ⟨hI', Or.inr ⟨k, rfl, by rw [k0]; exact MXI.start⟩⟩, fun rc => ?_⟩
        show m_X12_leads_b58 1000 (nI s) (nI o) M rc (-4) (nI k) = _
        rw [eb, if_pos (ew.mpr cx), if_pos rfl, nI_add_1]
      · have hgk := hg.1
        obtain ⟨b3, b4⟩ := hb g (by omega)
        obtain ⟨-, p4, p5⟩ := h g (by omega)
        have z4 : ¬ nI g = -4 := fun q => by
          have : (nI g).toInt = (-4 : Int32).toInt := by rw [q]
          rw [nI_toInt (by omega)] at this
          have e4 : (-4 : Int32).toInt = -4 := rfl
          omega
        have cg : ∀ {ρ : Type} (T : Option ρ), (if nI (8 * s + g) < 0 ∨ 32 ≤ 8 * s + g then none else T) = T := fun T => if_ck2 (by omega) (by omega) T
        have hl := m12_isLess (M := M) ho hu hv g0 g1 g2 b3 b4 b1 b2
        by_cases w : olt (ky1 o u v) (ky2 o) (x g) (y g) (x k) (y k)
        · refine ⟨(nI k, nI (k + 1)), by omega, ⟨hI', Or.inr ⟨k, rfl, hg.next w⟩⟩, fun rc => ?_⟩
          show m_X12_leads_b58 1000 (nI s) (nI o) M rc (nI g) (nI k) = _
          rw [eb, if_pos (ew.mpr cx), if_neg z4, e8 g, cl_nI (n := 8 * s + g) (by omega), cg, cg, p4, p5, hl.1 w, Option.bind_some, if_1, nI_add_1]
        · refine ⟨(nI g, nI (k + 1)), by omega, ⟨hI', Or.inr ⟨g, rfl, hg.step w⟩⟩, fun rc => ?_⟩
          show m_X12_leads_b58 1000 (nI s) (nI o) M rc (nI g) (nI k) = _
          rw [eb, if_pos (ew.mpr cx), if_neg z4, e8 g, cl_nI (n := 8 * s + g) (by omega), cg, cg, p4, p5, hl.2 w, Option.bind_some, if_0, nI_add_1]
    · right
      refine ⟨some (-13, M), ⟨fun q => absurd (q k (by omega)) cx, fun _ => rfl⟩, fun rc => ?_⟩
      rcases hw with ⟨k0, rfl⟩ | ⟨g, rfl, hg⟩
      · show m_X12_leads_b58 1000 (nI s) (nI o) M rc (-4) (nI k) = _
        rw [eb, if_neg (fun q => cx (ew.mp q))]
      · show m_X12_leads_b58 1000 (nI s) (nI o) M rc (nI g) (nI k) = _
        rw [eb, if_neg (fun q => cx (ew.mp q))]
