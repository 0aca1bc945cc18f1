/-! a term times a polynomial -/
def rise2 (M : smM) (a b off k : Nat) (g h : Nat → Int32) : smM := fun r t => if r = a ∧ off ≤ t ∧ t < off + k then g t else if r = b ∧ off ≤ t ∧ t < off + k then h t else M r t
theorem rise2_0 {M : smM} {a b off : Nat} {g h : Nat → Int32} : rise2 M a b off 0 g h = M := by
  funext r t
  unfold rise2
  rw [if_neg (by omega), if_neg (by omega)]
theorem rise2_o {M : smM} {a b off k r : Nat} {g h : Nat → Int32} (h1 : r ≠ a) (h2 : r ≠ b) : rise2 M a b off k g h r = M r := by
  funext t
  unfold rise2
  rw [if_neg (fun q => h1 q.1), if_neg (fun q => h2 q.1)]
theorem rise2_a {M : smM} {a b off k t : Nat} {g h : Nat → Int32} (h1 : off ≤ t) (h2 : t < off + k) : rise2 M a b off k g h a t = g t := by
  unfold rise2
  rw [if_pos ⟨rfl, h1, h2⟩]
theorem rise2_b {M : smM} {a b off k t : Nat} {g h : Nat → Int32} (hab : b ≠ a) (h1 : off ≤ t) (h2 : t < off + k) : rise2 M a b off k g h b t = h t := by
  unfold rise2
  rw [if_neg (fun q => hab q.1), if_pos ⟨rfl, h1, h2⟩]
theorem rise2_out {M : smM} {a b off k r t : Nat} {g h : Nat → Int32} (h1 : t < off ∨ off + k ≤ t) : rise2 M a b off k g h r t = M r t := by
  unfold rise2
  rw [if_neg (by omega), if_neg (by omega)]
theorem rise2_s {M : smM} {a b off k : Nat} {g h : Nat → Int32} (hab : b ≠ a) : smS (smS (rise2 M a b off k g h) a (off + k) (g (off + k))) b (off + k) (h (off + k)) = rise2 M a b off (k + 1) g h := by
  funext r t
  by_cases e : t = off + k
  · subst e
    by_cases ra : r = a
    · subst ra
      rw [smS_o (fun q => hab q.symm), smS_at, rise2_a (by omega) (by omega)]
    · by_cases rb : r = b
      · subst rb
        rw [smS_at, rise2_b hab (by omega) (by omega)]
      · rw [smS_o rb, smS_o ra, rise2_o ra rb, rise2_o ra rb]
  · rw [smS_get (Or.inr e), smS_get (Or.inr e)]
    unfold rise2
    have : (t < off + (k + 1)) = (t < off + k) := propext ⟨fun q => by omega, fun q => by omega⟩
    simp only [this]
def ROK (n i j : Nat) (x y : Nat → Nat) : Prop := ∀ k, k < n → x k + i < 2147483648 ∧ y k + j < 2147483648
theorem m_canRise {q n i j L : Nat} {c x y : Nat → Nat} {M : smM} (l2 : smLn (q + 2) = L) (l3 : smLn (q + 3) = L) (hn : n ≤ L) (hL : L < 1000) (h : PO M q n c x y) (hb : ∀ k, k < n → x k < 2147483648 ∧ y k < 2147483648) (hi : i < 2147483648) (hj : j < 2147483648) : (ROK n i j x y → m_X5_canRise q (nI i) (nI j) M = some 1) ∧ (¬ ROK n i j x y → m_X5_canRise q (nI i) (nI j) M = some 0) := by
  unfold m_X5_canRise
  have em : ∀ a : Nat, a < 2147483648 → (2147483647 : Int32) - nI a = nI (2147483647 - a) := fun a ha => by
    rw [show (2147483647 : Int32) = nI 2147483647 from rfl, jI_nI, jI_nI, jI_nI, jI_sub]; congr 1; omega
  refine lp_post (ρ := Int32) n (fun k s => s = nI k ∧ ∀ l, l < k → x l + i < 2147483648 ∧ y l + j < 2147483648) (fun e => (ROK n i j x y → e = some 1) ∧ (¬ ROK n i j x y → e = some 0)) ⟨rfl, fun l hl => absurd hl (Nat.not_lt_zero l)⟩ (by omega) ?_
  rintro k s hk ⟨rfl, hI⟩
  by_cases e : k = n
  · right
    subst e
    refine ⟨some 1, ⟨fun _ => rfl, fun q => absurd hI q⟩, fun rc => ?_⟩
    unfold m_X5_canRise_b2
    rw [h.1, if_pos ((nI_le_iff (by omega) (by omega)).mpr (Nat.le_refl k))]
  · obtain ⟨b1, b2⟩ := hb k (by omega)
    obtain ⟨p1, p2, p3⟩ := h.2 k (by omega)
    have hnle : ¬ nI n ≤ nI k := fun q => by rw [nI_le_iff (by omega) (by omega)] at q; omega
    by_cases cx : x k + i < 2147483648
    · by_cases cy : y k + j < 2147483648
      · left
        refine ⟨nI (k + 1), by omega, ⟨rfl, fun l hl => ?_⟩, fun rc => ?_⟩
        · by_cases el : l = k
          · rw [el]; exact ⟨cx, cy⟩
          · exact hI l (by omega)
        · unfold m_X5_canRise_b2
          rw [h.1, if_neg hnle, cl_nI (n := k) (by omega), l2, l3, if_ck2 (by omega) (by omega), em i hi, em j hj, p2, p3, if_neg (fun q => by rw [nI_lt_iff (by omega) (by omega)] at q; omega), if_ck2 (by omega) (by omega), if_pos ((nI_le_iff (by omega) (by omega)).mpr (by omega)), nI_add_1]
      · right
        refine ⟨some 0, ⟨fun q => absurd (q k (by omega)).2 cy, fun _ => rfl⟩, fun rc => ?_⟩
        unfold m_X5_canRise_b2
        rw [h.1, if_neg hnle, cl_nI (n := k) (by omega), l2, l3, if_ck2 (by omega) (by omega), em i hi, em j hj, p2, p3, if_neg (fun q => by rw [nI_lt_iff (by omega) (by omega)] at q; omega), if_ck2 (by omega) (by omega), if_neg (fun q => by rw [nI_le_iff (by omega) (by omega)] at q; omega)]
    · right
      refine ⟨some 0, ⟨fun q => absurd (q k (by omega)).1 cx, fun _ => rfl⟩, fun rc => ?_⟩
      unfold m_X5_canRise_b2
      rw [h.1, if_neg hnle, cl_nI (n := k) (by omega), l2, l3, if_ck2 (by omega) (by omega), em i hi, p2, if_pos ((nI_lt_iff (by omega) (by omega)).mpr (by omega))]
theorem m_rise {q n i j L : Nat} {c x y : Nat → Nat} {M : smM} (l2 : smLn (q + 2) = L) (l3 : smLn (q + 3) = L) (hn : n ≤ L) (hL : L < 1000) (h : PO M q n c x y) : m_X5_rise q (nI i) (nI j) M = some (rise2 M (q + 2) (q + 3) 0 n (fun k => nI (x k + i)) (fun k => nI (y k + j))) := by
  unfold m_X5_rise
  refine lp_cnt n (fun k => (nI k, rise2 M (q + 2) (q + 3) 0 k (fun k => nI (x k + i)) (fun k => nI (y k + j)))) (by rw [rise2_0]; rfl) (by omega) (fun k hk rc => ?_) (fun rc => ?_)
  · show m_X5_rise_b2 q (nI i) (nI j) rc (nI k) (rise2 M (q + 2) (q + 3) 0 k (fun k => nI (x k + i)) (fun k => nI (y k + j))) = rc (nI (k + 1), rise2 M (q + 2) (q + 3) 0 (k + 1) (fun k => nI (x k + i)) (fun k => nI (y k + j)))
    unfold m_X5_rise_b2
    obtain ⟨p1, p2, p3⟩ := h.2 k hk
    have ck : ∀ {ρ : Type} (T : Option ρ), (if nI k < 0 ∨ L ≤ k then none else T) = T := fun T => if_ck2 (by omega) (by omega) T
    rw [rise2_o (show q ≠ q + 2 by omega) (show q ≠ q + 3 by omega), h.1, if_neg (fun q => by rw [nI_le_iff (by omega) (by omega)] at q; omega), cl_nI (n := k) (by omega), l2, l3, ck, ck, smB_e, ck, ck, smB_e, smS_o (show q + 3 ≠ q + 2 by omega), rise2_out (by omega), rise2_out (by omega), p2, p3, nI_ad, nI_ad, nI_add_1]
    have := rise2_s (M := M) (a := q + 2) (b := q + 3) (off := 0) (k := k) (g := fun k => nI (x k + i)) (h := fun k => nI (y k + j)) (by omega)
    rw [Nat.zero_add] at this
    rw [this]
  · show m_X5_rise_b2 q (nI i) (nI j) rc (nI n) (rise2 M (q + 2) (q + 3) 0 n (fun k => nI (x k + i)) (fun k => nI (y k + j))) = _
    unfold m_X5_rise_b2
    rw [rise2_o (show q ≠ q + 2 by omega) (show q ≠ q + 3 by omega), h.1, if_pos ((nI_le_iff (by omega) (by omega)).mpr (Nat.le_refl n))]
theorem lg_le0 {a b : Int64} : lg_cmp a b ≤ (0 : Int32) ↔ ¬ b < a := by
  rw [← lg_gt]
  constructor
  · intro h q
    rw [Int32.le_iff_toInt_le] at h
    rw [Int32.lt_iff_toInt_lt] at q
    omega
  · intro h
    rw [Int32.lt_iff_toInt_lt] at h
    rw [Int32.le_iff_toInt_le]
    omega
theorem lN_ltI {a b : Nat} (ha : a < 2 ^ 62) (hb : b < 2 ^ 62) : lN a < lN b ↔ a < b := pk_lLT (by omega) (by omega)
theorem m12_times {s n i j : Nat} {c x y : Nat → Nat} {M : smM} (hs : s < 4) (hn : n ≤ 8) (h0 : M 1003 s = nI n) (h : ∀ k, k < n → M 1004 (8 * s + k) = nI (c k) ∧ M 1005 (8 * s + k) = nI (x k) ∧ M 1006 (8 * s + k) = nI (y k)) (hb : ∀ k, k < n → x k < 2147483648 ∧ y k < 2147483648) (hi : i < 2147483648) (hj : j < 2147483648) : (ROK n i j x y → smLp (fun rc q => m_X12_times_b39 1000 (nI s) (nI i) (nI j) M rc q) smF ((8 : Int32) * nI s) = some (nI n, rise2 M 1005 1006 (8 * s) n (fun k => nI (x (k - 8 * s) + i)) (fun k => nI (y (k - 8 * s) + j)))) ∧ (¬ ROK n i j x y → smLp (fun rc q => m_X12_times_b39 1000 (nI s) (nI i) (nI j) M rc q) smF ((8 : Int32) * nI s) = some (-13, M)) := by
  have e8 : (8 : Int32) * nI s = nI (8 * s) := by rw [show (8 : Int32) = nI 8 from rfl, jI_nI, jI_nI, jI_nI, jI_mul]; congr 1
  have ck4 : ∀ {ρ : Type} (T : Option ρ), (if nI s < 0 ∨ 4 ≤ s then none else T) = T := fun T => if_ck2 (by omega) (by omega) T
  have L2 : ∀ a, smLp (fun rc q => m_X12_times_b106 1000 (nI s) (nI i) (nI j) a rc q.1 q.2) smF ((8 : Int32) * nI s, M) = some (nI n, rise2 M 1005 1006 (8 * s) n (fun k => nI (x (k - 8 * s) + i)) (fun k => nI (y (k - 8 * s) + j))) := fun a => by
    rw [e8]
    refine lp_cnt n (fun k => (nI (8 * s + k), rise2 M 1005 1006 (8 * s) k (fun k => nI (x (k - 8 * s) + i)) (fun k => nI (y (k - 8 * s) + j)))) (by rw [rise2_0]; rfl) (by omega) (fun k hk rc => ?_) (fun rc => ?_)
    · show m_X12_times_b106 1000 (nI s) (nI i) (nI j) a rc (nI (8 * s + k)) (rise2 M 1005 1006 (8 * s) k (fun k => nI (x (k - 8 * s) + i)) (fun k => nI (y (k - 8 * s) + j))) = rc (nI (8 * s + (k + 1)), rise2 M 1005 1006 (8 * s) (k + 1) (fun k => nI (x (k - 8 * s) + i)) (fun k => nI (y (k - 8 * s) + j)))
      obtain ⟨p1, p2, p3⟩ := h k hk
      have ck : ∀ {ρ : Type} (T : Option ρ), (if nI (8 * s + k) < 0 ∨ 32 ≤ 8 * s + k then none else T) = T := fun T => if_ck2 (by omega) (by omega) T
      unfold m_X12_times_b106
      rw [cl_nI (n := s) (by omega), show smLn (1000 + 3) = 4 from g_1003, ck4, rise2_o (show 1000 + 3 ≠ 1005 by omega) (show 1000 + 3 ≠ 1006 by omega), show M (1000 + 3) s = nI n from h0, e8, nI_ad, if_neg (fun q => by rw [nI_le_iff (by omega) (by omega)] at q; omega), cl_nI (n := 8 * s + k) (by omega), show smLn (1000 + 5) = 32 from g_1005, show smLn (1000 + 6) = 32 from g_1006, ck, ck, smB_e, ck, ck, smB_e, smS_o (show 1000 + 6 ≠ 1000 + 5 by omega), rise2_out (by omega), rise2_out (by omega), show M (1000 + 5) (8 * s + k) = nI (x k) from p2, show M (1000 + 6) (8 * s + k) = nI (y k) from p3, nI_ad, nI_ad, nI_add_1]
      have := rise2_s (M := M) (a := 1005) (b := 1006) (off := 8 * s) (k := k) (g := fun k => nI (x (k - 8 * s) + i)) (h := fun k => nI (y (k - 8 * s) + j)) (by omega)
      rw [show 8 * s + k - 8 * s = k by omega] at this
      exact congrArg (fun m => rc (nI (8 * s + (k + 1)), m)) this
    · show m_X12_times_b106 1000 (nI s) (nI i) (nI j) a rc (nI (8 * s + n)) (rise2 M 1005 1006 (8 * s) n (fun k => nI (x (k - 8 * s) + i)) (fun k => nI (y (k - 8 * s) + j))) = _
      unfold m_X12_times_b106
      rw [cl_nI (n := s) (by omega), show smLn (1000 + 3) = 4 from g_1003, ck4, rise2_o (show 1000 + 3 ≠ 1005 by omega) (show 1000 + 3 ≠ 1006 by omega), show M (1000 + 3) s = nI n from h0, e8, nI_ad, if_pos ((nI_le_iff (by omega) (by omega)).mpr (Nat.le_refl _)), ck4]
  refine lp_post (ρ := Int32 × smM) n (fun k w => w = nI (8 * s + k) ∧ ∀ l, l < k → x l + i < 2147483648 ∧ y l + j < 2147483648) (fun e => (ROK n i j x y → e = some (nI n, rise2 M 1005 1006 (8 * s) n (fun k => nI (x (k - 8 * s) + i)) (fun k => nI (y (k - 8 * s) + j)))) ∧ (¬ ROK n i j x y → e = some (-13, M))) ⟨e8, fun l hl => absurd hl (Nat.not_lt_zero l)⟩ (by omega) ?_
  rintro k w hk ⟨rfl, hI⟩
  by_cases e : k = n
  · right
    subst e
    refine ⟨some (nI k, rise2 M 1005 1006 (8 * s) k (fun k => nI (x (k - 8 * s) + i)) (fun k => nI (y (k - 8 * s) + j))), ⟨fun _ => rfl, fun q => absurd hI q⟩, fun rc => ?_⟩
    unfold m_X12_times_b39
    rw [cl_nI (n := s) (by omega), show smLn (1000 + 3) = 4 from g_1003, ck4, show M (1000 + 3) s = nI k from h0, e8, nI_ad, if_pos ((nI_le_iff (by omega) (by omega)).mpr (Nat.le_refl _)), ← e8]
    exact L2 rc
  · obtain ⟨b1, b2⟩ := hb k (by omega)
    obtain ⟨p1, p2, p3⟩ := h k (by omega)
    have ck : ∀ {ρ : Type} (T : Option ρ), (if nI (8 * s + k) < 0 ∨ 32 ≤ 8 * s + k then none else T) = T := fun T => if_ck2 (by omega) (by omega) T
    have hnle : ¬ nI (8 * s + n) ≤ nI (8 * s + k) := fun q => by rw [nI_le_iff (by omega) (by omega)] at q; omega
    have ex : (0 : Int32) < lg_cmp ((nI (x k)).toInt64 + (nI i).toInt64) 2147483647 ↔ 2147483648 ≤ x k + i := by
      rw [l64 b1, l64 hi, lN_add, lg_gt, show (2147483647 : Int64) = lN 2147483647 from rfl, lN_ltI (by omega) (by omega)]; omega
    have ey : lg_cmp ((nI (y k)).toInt64 + (nI j).toInt64) 2147483647 ≤ (0 : Int32) ↔ y k + j < 2147483648 := by
      rw [l64 b2, l64 hj, lN_add, lg_le0, show (2147483647 : Int64) = lN 2147483647 from rfl, lN_ltI (by omega) (by omega)]; omega
    by_cases cx : x k + i < 2147483648
    · by_cases cy : y k + j < 2147483648
      · left
        refine ⟨nI (8 * s + (k + 1)), by omega, ⟨rfl, fun l hl => ?_⟩, fun rc => ?_⟩
        · by_cases el : l = k
          · rw [el]; exact ⟨cx, cy⟩
          · exact hI l (by omega)
        · unfold m_X12_times_b39
          rw [cl_nI (n := s) (by omega), show smLn (1000 + 3) = 4 from g_1003, ck4, show M (1000 + 3) s = nI n from h0, e8, nI_ad, if_neg hnle, cl_nI (n := 8 * s + k) (by omega), show smLn (1000 + 5) = 32 from g_1005, show smLn (1000 + 6) = 32 from g_1006, ck, show M (1000 + 5) (8 * s + k) = nI (x k) from p2, show M (1000 + 6) (8 * s + k) = nI (y k) from p3, if_neg (fun q => by rw [ex] at q; omega), ck, if_pos (ey.mpr cy), nI_add_1]
          rfl
      · right
        refine ⟨some (-13, M), ⟨fun q => absurd (q k (by omega)).2 cy, fun _ => rfl⟩, fun rc => ?_⟩
        unfold m_X12_times_b39
        rw [cl_nI (n := s) (by omega), show smLn (1000 + 3) = 4 from g_1003, ck4, show M (1000 + 3) s = nI n from h0, e8, nI_ad, if_neg hnle, cl_nI (n := 8 * s + k) (by omega), show smLn (1000 + 5) = 32 from g_1005, show smLn (1000 + 6) = 32 from g_1006, ck, show M (1000 + 5) (8 * s + k) = nI (x k) from p2, show M (1000 + 6) (8 * s + k) = nI (y k) from p3, if_neg (fun q => by rw [ex] at q; omega), ck, if_neg (fun q => cy (ey.mp q))]
    · right
      refine ⟨some (-13, M), ⟨fun q => absurd (q k (by omega)).1 cx, fun _ => rfl⟩, fun rc => ?_⟩
      unfold m_X12_times_b39
      rw [cl_nI (n := s) (by omega), show smLn (1000 + 3) = 4 from g_1003, ck4, show M (1000 + 3) s = nI n from h0, e8, nI_ad, if_neg hnle, cl_nI (n := 8 * s + k) (by omega), show smLn (1000 + 5) = 32 from g_1005, ck, show M (1000 + 5) (8 * s + k) = nI (x k) from p2, if_pos (ex.mpr (by omega))]
theorem op_times : Op_times Rel := by
  intro M1 M2 h x i j
  have hr := h
  obtain ⟨p, ne, A, B, u, v, F, G, hpar, hs1, hs2, hca, hsl, him⟩ := h
  by_cases c : (0 : Int32) ≤ x ∧ x ≤ 3
  · obtain ⟨s, s3, rfl⟩ := rngI (h := 3) (by omega) c.1 c.2
    obtain ⟨⟨n0, hn0, h01⟩, a2, κ, a3, a4, a5⟩ := hsl s (by omega)
    have hκ : κ ≤ 2 := by rcases a5 with q | ⟨q, -⟩ | ⟨q, -⟩ <;> omega
    obtain ⟨w1, w2⟩ := m_wants (w := 1) (by omega) a3 a4 hκ (by omega) (by omega)
    have ck4 : ∀ {ρ : Type} (T : Option ρ), (if nI s < 0 ∨ 4 ≤ s then none else T) = T := fun T => if_ck2 (by omega) (by omega) T
    by_cases ci : i < 0
    · have e1 : m_X11_times 0 (nI s) i j M1 = some (-1, M1) := by
        unfold m_X11_times
        rw [m_isSlot, Option.bind_some, b01_t c, if_1, if_pos ci]
      have e2 : m_X12_times 1000 (nI s) i j M2 = some (-1, M2) := by
        unfold m_X12_times
        rw [m12_isSlot, Option.bind_some, b01_t c, if_1, if_pos ci]
      exact ⟨_, _, _, e1, e2, hr⟩
    · by_cases cj : (0 : Int32) ≤ j
      · obtain ⟨i', hi', rfl⟩ := nat_of (x := i) (by rw [Int32.lt_iff_toInt_lt] at ci; rw [Int32.le_iff_toInt_le]; omega)
        obtain ⟨j', hj', rfl⟩ := nat_of (x := j) cj
        have e1 : m_X11_times 0 (nI s) (nI i') (nI j') M1 = Option.bind (m_X8_findWanting (13 + 20 * s) 1 M1) fun v24 => if v24 = 0 then (Option.bind (m_X5_canRise (13 + 20 * s + 1) (nI i') (nI j') M1) fun v52 => if v52 = 0 then some (-13, M1) else Option.bind (m_X5_rise (13 + 20 * s + 1) (nI i') (nI j') M1) fun M65 => some (M65 (13 + 20 * s + 1) 0, M65)) else some (v24, M1) := by
          unfold m_X11_times
          rw [m_isSlot, Option.bind_some, b01_t c, if_1, if_neg ci, if_pos cj, cl_nI (n := s) (by omega), show smLn (0 + 12) = 4 from g_12, ck4]
          simp only [ck4, Nat.zero_add, Nat.reduceAdd]
        have e2 : m_X12_times 1000 (nI s) (nI i') (nI j') M2 = Option.bind (m_X12_lacks 1000 (nI s) 1 M2) fun v20 => if (0 : Int32) ≤ v20 then (smLp (fun rc q => m_X12_times_b39 1000 (nI s) (nI i') (nI j') M2 rc q) smF ((8 : Int32) * nI s)) else some (v20, M2) := by
          unfold m_X12_times
          rw [m12_isSlot, Option.bind_some, b01_t c, if_1, if_neg ci, if_pos cj]
        rw [show m_X8_findWanting (13 + 20 * s) 1 M1 = _ from w1, Option.bind_some] at e1
        rw [show m_X12_lacks 1000 (nI s) 1 M2 = _ from w2, Option.bind_some] at e2
        rcases a5 with rfl | ⟨rfl, n, cc, xx, yy, c1, c2, c3, c4, c5⟩ | ⟨rfl, c6⟩
        · rw [if_neg (by decide), if_pos rfl, if_neg (by decide)] at e1
          rw [if_neg (by decide), if_pos rfl, if_neg (by decide)] at e2
          exact ⟨_, _, _, e1, e2, hr⟩
        · obtain ⟨p1, p2, p3⟩ := g_pl s (by omega)
          have hb : ∀ k, k < n → xx k < 2147483648 ∧ yy k < 2147483648 := fun k hk => ⟨(c2.1 k hk).2.2.1, (c2.1 k hk).2.2.2⟩
          have q1 := m_canRise (i := i') (j := j') p2 p3 (by omega) (by omega) c3 hb hi' hj'
          have q2 := m12_times (i := i') (j := j') (M := M2) (by omega) c1 c4 c5 hb hi' hj'
          rw [if_pos rfl, if_0] at e1
          rw [if_pos rfl, if_pos (by decide)] at e2
          by_cases ok : ROK n i' j' xx yy
          · rw [q1.1 ok, Option.bind_some, if_1, m_rise p2 p3 (by omega) (by omega) c3, Option.bind_some, rise2_o (by omega) (by omega), c3.1] at e1
            rw [q2.1 ok] at e2
            refine ⟨_, _, _, e1, e2, rel_slot hpar hs1 hs2 hca hsl him (s := s) (fun r h1 h2 => rise2_o (by omega) (by omega)) (by omega) (fun k hk => by rw [rise2_o (by omega) (by omega)]) (rise2_o (by omega) (by omega)) (rise2_o (by omega) (by omega)) (rise2_o (by omega) (by omega)) (fun t ht hne => ?_) ⟨⟨n0, hn0, ?_⟩, ?_, 1, ?_, ?_, Or.inr (Or.inl ⟨rfl, n, cc, fun k => xx k + i', fun k => yy k + j', c1, ⟨fun k hk => ?_, fun k l hkl hl => ?_⟩, ⟨?_, fun k hk => ?_⟩, ?_, fun k hk => ?_⟩)⟩⟩
            · unfold SAME2
              rw [rise2_o (show 1002 ≠ 1005 by omega) (by omega), rise2_o (show 1003 ≠ 1005 by omega) (by omega), rise2_o (show 1004 ≠ 1005 by omega) (by omega), rise2_o (show 1007 ≠ 1005 by omega) (by omega), rise2_o (show 1008 ≠ 1005 by omega) (by omega), rise2_o (show 1009 ≠ 1005 by omega) (by omega), rise2_o (show 1010 ≠ 1005 by omega) (by omega), rise2_o (show 1011 ≠ 1005 by omega) (by omega), rise2_o (show 1012 ≠ 1005 by omega) (by omega)]
              exact ⟨rfl, rfl, fun k hk => ⟨rfl, rise2_out (by omega), rise2_out (by omega)⟩, ⟨rfl, rfl, rfl⟩, fun _ _ => ⟨rfl, rfl⟩, fun _ _ => rfl⟩
            · rw [rise2_o (by omega) (by omega)]; exact h01
            · rw [rise2_o (by omega) (by omega)]; exact a2
            · rw [rise2_o (by omega) (by omega)]; exact a3
            · rw [rise2_o (by omega) (by omega)]; exact a4
            · exact ⟨(c2.1 k hk).1, (c2.1 k hk).2.1, (ok k hk).1, (ok k hk).2⟩
            · have := c2.2 k l hkl hl
              show xx l + i' < xx k + i' ∨ xx l + i' = xx k + i' ∧ yy l + j' < yy k + j'
              omega
            · rw [rise2_o (by omega) (by omega)]; exact c3.1
            · obtain ⟨f1, f2, f3⟩ := c3.2 k hk
              refine ⟨by rw [rise2_o (by omega) (by omega)]; exact f1, ?_, ?_⟩
              · rw [rise2_a (by omega) (by omega)]
              · rw [rise2_b (by omega) (by omega) (by omega)]
            · rw [rise2_o (by omega) (by omega)]; exact c4
            · obtain ⟨f1, f2, f3⟩ := c5 k hk
              refine ⟨by rw [rise2_o (by omega) (by omega)]; exact f1, ?_, ?_⟩
              · rw [rise2_a (by omega) (by omega), show 8 * s + k - 8 * s = k by omega]
              · rw [rise2_b (by omega) (by omega) (by omega), show 8 * s + k - 8 * s = k by omega]
          · rw [q1.2 ok, Option.bind_some, if_0] at e1
            rw [q2.2 ok] at e2
            exact ⟨_, _, _, e1, e2, hr⟩
        · rw [if_neg (by decide), if_neg (by decide), if_neg (by decide)] at e1
          rw [if_neg (by decide), if_neg (by decide), if_neg (by decide)] at e2
          exact ⟨_, _, _, e1, e2, hr⟩
      · have e1 : m_X11_times 0 (nI s) i j M1 = some (-1, M1) := by
          unfold m_X11_times
          rw [m_isSlot, Option.bind_some, b01_t c, if_1, if_neg ci, if_neg cj]
        have e2 : m_X12_times 1000 (nI s) i j M2 = some (-1, M2) := by
          unfold m_X12_times
          rw [m12_isSlot, Option.bind_some, b01_t c, if_1, if_neg ci, if_neg cj]
        exact ⟨_, _, _, e1, e2, hr⟩
  · have e1 : m_X11_times 0 x i j M1 = some (-1, M1) := by
      unfold m_X11_times
      rw [m_isSlot, Option.bind_some, b01_f c, if_0]
    have e2 : m_X12_times 1000 x i j M2 = some (-1, M2) := by
      unfold m_X12_times
      rw [m12_isSlot, Option.bind_some, b01_f c, if_0]
    exact ⟨_, _, _, e1, e2, hr⟩
