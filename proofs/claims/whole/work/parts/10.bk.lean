/-! the degree -/
def mxs (x y : Nat → Nat) : Nat → Nat
  | 0 => 0
  | k + 1 => if x k + y k < mxs x y k then mxs x y k else x k + y k
theorem mxs_le {x y : Nat → Nat} {B : Nat} : ∀ {n : Nat}, (∀ k, k < n → x k + y k ≤ B) → mxs x y n ≤ B
  | 0, _ => Nat.zero_le B
  | n + 1, h => by
    have ih := mxs_le (n := n) (fun k hk => h k (by omega))
    have := h n (by omega)
    show (if x n + y n < mxs x y n then mxs x y n else x n + y n) ≤ B
    split <;> assumption
theorem lN_m4 {m : Nat} (h : m < 2 ^ 62) : (-4 : Int64) < lN m := by
  have a : ¬ lN m < lN 0 := fun q => by rw [lN_ltI h (by omega)] at q; omega
  rw [Int64.lt_iff_toInt_lt] at a ⊢
  have e0 : (lN 0).toInt = 0 := rfl
  have e4 : (-4 : Int64).toInt = -4 := rfl
  omega
theorem m_greatestSum {q n L : Nat} {c x y : Nat → Nat} {M : smM} (l2 : smLn (q + 2) = L) (l3 : smLn (q + 3) = L) (hn : n ≤ L) (hL : L < 1000) (h : PO M q n c x y) (hb : ∀ k, k < n → x k < 2147483648 ∧ y k < 2147483648) : m_X5_greatestSum q M = some (lN (mxs x y n)) := by
  unfold m_X5_greatestSum
  refine lp_cnt n (fun k => (lN (mxs x y k), nI k)) rfl (by omega) (fun k hk rc => ?_) (fun rc => ?_)
  · show m_X5_greatestSum_b4 q M rc (lN (mxs x y k)) (nI k) = rc (lN (mxs x y (k + 1)), nI (k + 1))
    obtain ⟨b1, b2⟩ := hb k hk
    obtain ⟨p1, p2, p3⟩ := h.2 k hk
    have hm : mxs x y k ≤ 4294967296 := mxs_le (fun l hl => by have := hb l (by omega); omega)
    unfold m_X5_greatestSum_b4
    rw [h.1, if_neg (fun q => by rw [nI_le_iff (by omega) (by omega)] at q; omega), cl_nI (n := k) (by omega), l2, l3, if_ck2 (by omega) (by omega), if_ck2 (by omega) (by omega), p2, p3, l64 b1, l64 b2, lN_add, nI_add_1]
    have e := lN_ltI (a := x k + y k) (b := mxs x y k) (by omega) (by omega)
    have em : mxs x y (k + 1) = if x k + y k < mxs x y k then mxs x y k else x k + y k := rfl
    by_cases d : x k + y k < mxs x y k
    · rw [if_pos (e.mpr d), em, if_pos d]
    · rw [if_neg (fun q => d (e.mp q)), em, if_neg d]
  · show m_X5_greatestSum_b4 q M rc (lN (mxs x y n)) (nI n) = _
    unfold m_X5_greatestSum_b4
    rw [h.1, if_pos ((nI_le_iff (by omega) (by omega)).mpr (Nat.le_refl n))]
theorem m12_degl {s n : Nat} {c x y : Nat → Nat} {M : smM} (hs : s < 4) (hn : n ≤ 8) (h0 : M 1003 s = nI n) (h : ∀ k, k < n → M 1004 (8 * s + k) = nI (c k) ∧ M 1005 (8 * s + k) = nI (x k) ∧ M 1006 (8 * s + k) = nI (y k)) (hb : ∀ k, k < n → x k < 2147483648 ∧ y k < 2147483648) : smLp (fun rc q => m_X12_degree_b32 1000 (nI s) M rc q.1 q.2) smF ((-4 : Int64), (8 : Int32) * nI s) = (if lg_cmp (if n = 0 then -4 else lN (mxs x y n)) 2147483647 ≤ (0 : Int32) then some ((if n = 0 then (-4 : Int64) else lN (mxs x y n)).toInt32) else some (-13)) := by
  have e8 : (8 : Int32) * nI s = nI (8 * s) := by rw [show (8 : Int32) = nI 8 from rfl, jI_nI, jI_nI, jI_nI, jI_mul]; congr 1
  have ck4 : ∀ {ρ : Type} (T : Option ρ), (if nI s < 0 ∨ 4 ≤ s then none else T) = T := fun T => if_ck2 (by omega) (by omega) T
  refine lp_cnt n (fun k => ((if k = 0 then (-4 : Int64) else lN (mxs x y k)), nI (8 * s + k))) (by rw [e8]; rfl) (by omega) (fun k hk rc => ?_) (fun rc => ?_)
  · show m_X12_degree_b32 1000 (nI s) M rc (if k = 0 then (-4 : Int64) else lN (mxs x y k)) (nI (8 * s + k)) = rc ((if k + 1 = 0 then (-4 : Int64) else lN (mxs x y (k + 1))), nI (8 * s + (k + 1)))
    obtain ⟨b1, b2⟩ := hb k hk
    obtain ⟨p1, p2, p3⟩ := h k hk
    have ck : ∀ {ρ : Type} (T : Option ρ), (if nI (8 * s + k) < 0 ∨ 32 ≤ 8 * s + k then none else T) = T := fun T => if_ck2 (by omega) (by omega) T
    have hm : mxs x y k ≤ 4294967296 := mxs_le (fun l hl => by have := hb l (by omega); omega)
    have em : mxs x y (k + 1) = if x k + y k < mxs x y k then mxs x y k else x k + y k := rfl
    unfold m_X12_degree_b32
    rw [cl_nI (n := s) (by omega), show smLn (1000 + 3) = 4 from g_1003, ck4, show M (1000 + 3) s = nI n from h0, e8, nI_ad, if_neg (fun q => by rw [nI_le_iff (by omega) (by omega)] at q; omega), cl_nI (n := 8 * s + k) (by omega), show smLn (1000 + 5) = 32 from g_1005, show smLn (1000 + 6) = 32 from g_1006, ck, ck, show M (1000 + 5) (8 * s + k) = nI (x k) from p2, show M (1000 + 6) (8 * s + k) = nI (y k) from p3, l64 b1, l64 b2, lN_add, nI_add_1, if_neg (show ¬ k + 1 = 0 by omega)]
    by_cases k0 : k = 0
    · subst k0
      rw [if_pos rfl, if_neg (fun q => by rw [lg_le0] at q; exact q (lN_m4 (by omega))), em, if_neg (show ¬ x 0 + y 0 < mxs x y 0 from Nat.not_lt_zero _)]
    · rw [if_neg k0]
      have e := lN_ltI (a := mxs x y k) (b := x k + y k) (by omega) (by omega)
      by_cases d : mxs x y k < x k + y k
      · rw [if_neg (fun q => by rw [lg_le0] at q; exact q (e.mpr d)), em, if_neg (by omega)]
        rfl
      · rw [if_pos (lg_le0.mpr (fun q => d (e.mp q))), em]
        by_cases d2 : x k + y k < mxs x y k
        · rw [if_pos d2]; rfl
        · rw [if_neg d2, show mxs x y k = x k + y k by omega]; rfl
  · show m_X12_degree_b32 1000 (nI s) M rc (if n = 0 then (-4 : Int64) else lN (mxs x y n)) (nI (8 * s + n)) = _
    unfold m_X12_degree_b32
    rw [cl_nI (n := s) (by omega), show smLn (1000 + 3) = 4 from g_1003, ck4, show M (1000 + 3) s = nI n from h0, e8, nI_ad, if_pos ((nI_le_iff (by omega) (by omega)).mpr (Nat.le_refl _))]
theorem op_degree : Op_degree Rel := by
  intro M1 M2 h x
  have hr := h
  obtain ⟨p, ne, A, B, u, v, F, G, hpar, hs1, hs2, hca, hsl, him⟩ := h
  by_cases c : (0 : Int32) ≤ x ∧ x ≤ 3
  · obtain ⟨s, s3, rfl⟩ := rngI (h := 3) (by omega) c.1 c.2
    obtain ⟨a1, a2, κ, a3, a4, a5⟩ := hsl s (by omega)
    have hκ : κ ≤ 2 := by rcases a5 with q | ⟨q, -⟩ | ⟨q, -⟩ <;> omega
    obtain ⟨w1, w2⟩ := m_wants (w := 1) (by omega) a3 a4 hκ (by omega) (by omega)
    have ck4 : ∀ {ρ : Type} (T : Option ρ), (if nI s < 0 ∨ 4 ≤ s then none else T) = T := fun T => if_ck2 (by omega) (by omega) T
    have e1 : m_X11_degree 0 (nI s) M1 = Option.bind (m_X8_findWanting (13 + 20 * s) 1 M1) fun v16 => if v16 = 0 then (if M1 (13 + 20 * s + 1) 0 = 0 then some (-4) else Option.bind (m_X5_greatestSum (13 + 20 * s + 1) M1) fun v47 => if lg_cmp v47 2147483647 ≤ (0 : Int32) then some v47.toInt32 else some (-13)) else some v16 := by
      unfold m_X11_degree
      rw [m_isSlot, Option.bind_some, b01_t c, if_1, cl_nI (n := s) (by omega), show smLn (0 + 12) = 4 from g_12, ck4]
      simp only [ck4, Nat.zero_add, Nat.reduceAdd]
    have e2 : m_X12_degree 1000 (nI s) M2 = Option.bind (m_X12_lacks 1000 (nI s) 1 M2) fun v12 => if (0 : Int32) ≤ v12 then smLp (fun rc q => m_X12_degree_b32 1000 (nI s) M2 rc q.1 q.2) smF ((-4 : Int64), (8 : Int32) * nI s) else some v12 := by
      unfold m_X12_degree
      rw [m12_isSlot, Option.bind_some, b01_t c, if_1]
    rw [show m_X8_findWanting (13 + 20 * s) 1 M1 = _ from w1, Option.bind_some] at e1
    rw [show m_X12_lacks 1000 (nI s) 1 M2 = _ from w2, Option.bind_some] at e2
    rcases a5 with rfl | ⟨rfl, n, cc, xx, yy, c1, c2, c3, c4, c5⟩ | ⟨rfl, c6⟩
    · rw [if_neg (by decide), if_pos rfl, if_neg (by decide)] at e1
      rw [if_neg (by decide), if_pos rfl, if_neg (by decide)] at e2
      exact ⟨_, e1, e2, hr⟩
    · obtain ⟨p1, p2, p3⟩ := g_pl s (by omega)
      have hb : ∀ k, k < n → xx k < 2147483648 ∧ yy k < 2147483648 := fun k hk => ⟨(c2.1 k hk).2.2.1, (c2.1 k hk).2.2.2⟩
      rw [if_pos rfl, if_0, c3.1] at e1
      rw [if_pos rfl, if_pos (by decide), m12_degl (by omega) c1 c4 c5 hb] at e2
      by_cases n0 : n = 0
      · subst n0
        rw [if_pos n_00] at e1
        rw [if_pos rfl, if_pos (by decide)] at e2
        exact ⟨_, e1, e2, hr⟩
      · rw [if_neg (z_nI (by omega) (by omega)), m_greatestSum p2 p3 (by omega) (by omega) c3 hb, Option.bind_some] at e1
        rw [if_neg n0] at e2
        by_cases d : lg_cmp (lN (mxs xx yy n)) 2147483647 ≤ (0 : Int32)
        · rw [if_pos d] at e1 e2
          exact ⟨_, e1, e2, hr⟩
        · rw [if_neg d] at e1 e2
          exact ⟨_, e1, e2, hr⟩
    · rw [if_neg (by decide), if_neg (by decide), if_neg (by decide)] at e1
      rw [if_neg (by decide), if_neg (by decide), if_neg (by decide)] at e2
      exact ⟨_, e1, e2, hr⟩
  · have e1 : m_X11_degree 0 x M1 = some (-1) := by
      unfold m_X11_degree
      rw [m_isSlot, Option.bind_some, b01_f c, if_0]
    have e2 : m_X12_degree 1000 x M2 = some (-1) := by
      unfold m_X12_degree
      rw [m12_isSlot, Option.bind_some, b01_f c, if_0]
    exact ⟨_, e1, e2, hr⟩
/-! counting the slots -/
def cks (M : smM) (w : Int32) : Nat → Nat
  | 0 => 0
  | k + 1 => cks M w k + (if M 1002 k = w then 1 else 0)
theorem m_countSlots {M1 M2 : smM} {w : Int32} (he : ∀ s, s < 4 → M1 (13 + 20 * s) 0 = M2 1002 s) : m_X11_countSlots 0 w M1 = some (nI (cks M2 w 4)) ∧ m_X12_slotsOf 1000 w M2 = some (nI (cks M2 w 4)) := by
  constructor
  · unfold m_X11_countSlots
    refine lp_cnt 4 (fun k => (nI (cks M2 w k), nI k)) rfl (by omega) (fun k hk rc => ?_) (fun rc => ?_)
    · show m_X11_countSlots_b4 0 w M1 rc (nI (cks M2 w k)) (nI k) = rc (nI (cks M2 w k + (if M2 1002 k = w then 1 else 0)), nI (k + 1))
      unfold m_X11_countSlots_b4
      rw [if_neg (fun q => by rw [show (4 : Int32) = nI 4 from rfl, nI_le_iff (by omega) (by omega)] at q; omega), cl_nI (n := k) (by omega), show smLn (0 + 12) = 4 from g_12, if_ck2 (by omega) (by omega), show 0 + 12 + 1 + 20 * k = 13 + 20 * k by omega, he k hk, nI_add_1, nI_add_1]
      by_cases d : M2 1002 k = w
      · rw [if_pos d, if_pos d]
      · rw [if_neg d, if_neg d]; rfl
    · show m_X11_countSlots_b4 0 w M1 rc (nI (cks M2 w 4)) (nI 4) = _
      unfold m_X11_countSlots_b4
      rw [if_pos (by decide)]
  · unfold m_X12_slotsOf
    refine lp_cnt 4 (fun k => (nI (cks M2 w k), nI k)) rfl (by omega) (fun k hk rc => ?_) (fun rc => ?_)
    · show m_X12_slotsOf_b4 1000 w M2 rc (nI (cks M2 w k)) (nI k) = rc (nI (cks M2 w k + (if M2 1002 k = w then 1 else 0)), nI (k + 1))
      unfold m_X12_slotsOf_b4
      rw [if_neg (fun q => by rw [show (4 : Int32) = nI 4 from rfl, nI_le_iff (by omega) (by omega)] at q; omega), cl_nI (n := k) (by omega), show smLn (1000 + 2) = 4 from g_1002, if_ck2 (by omega) (by omega), nI_add_1, nI_add_1]
      by_cases d : M2 1002 k = w
      · rw [if_pos (show M2 (1000 + 2) k = w from d), if_pos d]
      · rw [if_neg (show ¬ M2 (1000 + 2) k = w from d), if_neg d, show nI (cks M2 w k) + 0 = nI (cks M2 w k + 0) from nI_ad _ 0]
    · show m_X12_slotsOf_b4 1000 w M2 rc (nI (cks M2 w 4)) (nI 4) = _
      unfold m_X12_slotsOf_b4
      rw [if_pos (by decide)]
