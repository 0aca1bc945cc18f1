/-! powers of an unknown left over by its least polynomial, by the class -/
def SHZ {p : Nat} [NeZero p] (Z : Nat → Nat → Fin p) : Prop := ∀ (n : Nat) (c : Nat → Fin p) (q : Nat → Nat) (i : Nat), (∀ d, Z i d = su (fun k => c k * Z (q k) d) n) → ∀ m d, Z (i + m) d = su (fun k => c k * Z (q k + m) d) n
theorem shz_L {p : Nat} [NeZero p] (A B : Nat) (F G : Nat → Nat → Fin p) (w : Nat) : SHZ (ZL A B F G w) := by
  intro n c q i h m d
  unfold ZL at *
  by_cases e : w = 0
  · simp only [if_pos e] at h ⊢
    exact Nn_shX (px := q) (py := fun _ => 0) m h d
  · simp only [if_neg e] at h ⊢
    exact Nn_shY (px := fun _ => 0) (py := q) m h d
theorem LPZ.rule {p : Nat} [NeZero p] {Z : Nat → Nat → Fin p} {h : Nat} {c : Nat → Fin p} (a : LPZ Z h c) (s : SHZ Z) (m d : Nat) : Z (h + m) d + su (fun k => c k * Z (k + m) d) h = 0 := by
  have e : ∀ d, Z h d = su (fun k => - c k * Z k d) h := fun d => by
    have e1 := a.2.1 d
    simp only [su] at e1
    rw [a.1] at e1
    have e2 : su (fun k => - c k * Z k d) h = - su (fun k => c k * Z k d) h := by
      rw [← su_neg]
      exact su_cong (fun k _ => by grind)
    rw [e2]
    grind
  have e3 := s h (fun k => - c k) (fun k => k) h e m d
  rw [e3]
  have e2 : su (fun k => - c k * Z (k + m) d) h = - su (fun k => c k * Z (k + m) d) h := by
    rw [← su_neg]
    exact su_cong (fun k _ => by grind)
  rw [e2]
  grind
def RP {p : Nat} [NeZero p] (Z : Nat → Nat → Fin p) (h : Nat) (w : Nat → Fin p) (e : Nat) : Prop := (∀ d, Z e d = su (fun k => w k * Z k d) h) ∧ ∀ k, h ≤ k → w k = 0
theorem lo_sub {p : Nat} [NeZero p] (hp : 2 ≤ p) (hp2 : p ≤ 97) (a b c : Fin p) (M : smM) : m_X11_leftOver (nI a.val - nI b.val * nI c.val) (nI p) M = some (nI (a - b * c).val) := by
  have h1 := a.isLt
  have h2 := b.isLt
  have h3 := c.isLt
  have hm : b.val * c.val ≤ 97 * 97 := Nat.mul_le_mul (by omega) (by omega)
  have hm2 : ((b.val * c.val : Nat) : Int) = (b.val : Int) * (c.val : Int) := Int.natCast_mul _ _
  rw [jI_nI a.val, jI_nI b.val, jI_nI c.val, jI_mul, jI_sub, m_leftOver (by omega) (by omega) hp (by omega)]
  rw [← fz_subz, ← fz_mulz, fz_self, fz_self, fz_self]
theorem lo_add {p : Nat} [NeZero p] (hp : 2 ≤ p) (hp2 : p ≤ 97) (a b c : Fin p) (M : smM) : m_X11_leftOver (nI a.val + nI b.val * nI c.val) (nI p) M = some (nI (a + b * c).val) := by
  have h1 := a.isLt
  have h2 := b.isLt
  have h3 := c.isLt
  have hm : b.val * c.val ≤ 97 * 97 := Nat.mul_le_mul (by omega) (by omega)
  have hm2 : ((b.val * c.val : Nat) : Int) = (b.val : Int) * (c.val : Int) := Int.natCast_mul _ _
  rw [jI_nI a.val, jI_nI b.val, jI_nI c.val, jI_mul, jI_add, m_leftOver (by omega) (by omega) hp (by omega)]
  rw [← fz_addz, ← fz_mulz, fz_self, fz_self, fz_self]
theorem lo_neg {p : Nat} [NeZero p] (hp : 2 ≤ p) (hp2 : p ≤ 97) (b c : Fin p) (M : smM) : m_X11_leftOver ((- nI b.val) * nI c.val) (nI p) M = some (nI (0 - b * c).val) := by
  have h2 := b.isLt
  have h3 := c.isLt
  have hm : b.val * c.val ≤ 97 * 97 := Nat.mul_le_mul (by omega) (by omega)
  have hm2 : ((b.val * c.val : Nat) : Int) = (b.val : Int) * (c.val : Int) := Int.natCast_mul _ _
  have hm3 : (-(b.val : Int)) * (c.val : Int) = -((b.val : Int) * (c.val : Int)) := Int.neg_mul _ _
  rw [jI_nI b.val, jI_nI c.val, jI_neg, jI_mul, m_leftOver (by omega) (by omega) hp (by omega)]
  rw [hm3, ← fz_negz, ← fz_mulz, fz_self, fz_self]
  congr 3
theorem su_up1 {p : Nat} [NeZero p] (s : Nat → Fin p) (Z : Nat → Nat → Fin p) (v : Fin p) (d : Nat) {j : Nat} : ∀ {n : Nat}, j < n → su (fun k => up1 s j v k * Z k d) n = su (fun k => s k * Z k d) n + (v - s j) * Z j d
  | 0, h => absurd h (by omega)
  | n + 1, h => by
    simp only [su]
    by_cases e : j = n
    · subst e
      rw [up1_s, su_cong (g := fun k => s k * Z k d) (fun k hk => by rw [up1_n (by omega)])]
      grind
    · rw [su_up1 s Z v d (show j < n by omega), up1_n (show n ≠ j by omega)]
      grind
def DS {p : Nat} [NeZero p] (Z : Nat → Nat → Fin p) (h : Nat) (w : Nat → Fin p) (k l d : Nat) : Fin p := su (fun k' => su (fun l' => w k' * w l' * Z (k' + l') d) h) k + su (fun l' => w k * w l' * Z (k + l') d) l
theorem DS_s {p : Nat} [NeZero p] (Z : Nat → Nat → Fin p) (h : Nat) (w : Nat → Fin p) (k l d : Nat) : DS Z h w k (l + 1) d = DS Z h w k l d + w k * w l * Z (k + l) d := by
  unfold DS
  simp only [su]
  grind
theorem DS_r {p : Nat} [NeZero p] (Z : Nat → Nat → Fin p) (h : Nat) (w : Nat → Fin p) (k d : Nat) : DS Z h w (k + 1) 0 d = DS Z h w k h d := by
  unfold DS
  simp only [su]
  grind
theorem DS_0 {p : Nat} [NeZero p] (Z : Nat → Nat → Fin p) (h : Nat) (w : Nat → Fin p) (d : Nat) : DS Z h w 0 0 d = 0 := by
  unfold DS
  simp only [su]
  grind
theorem DS_e {p : Nat} [NeZero p] {Z : Nat → Nat → Fin p} {h : Nat} {w : Nat → Fin p} {e : Nat} (s : SHZ Z) (r : RP Z h w e) (d : Nat) : DS Z h w h 0 d = Z (e + e) d := by
  rw [s h w (fun k => k) e r.1 e d]
  unfold DS
  simp only [su]
  rw [r_a0]
  refine su_cong (fun k _ => ?_)
  rw [show k + e = e + k by omega, s h w (fun k => k) e r.1 k d, ← su_mul]
  exact su_cong (fun l _ => by rw [show k + l = l + k by omega]; grind)
theorem m_square {q p h e : Nat} [NeZero p] {Z : Nat → Nat → Fin p} {c w : Nat → Fin p} {M : smM} (l1 : smLn (q + 1) = 10) (l2 : smLn (q + 2) = 9) (l3 : smLn (q + 3) = 18) (hp : 2 ≤ p) (hp2 : p ≤ 97) (h1 : 1 ≤ h) (h9 : h ≤ 9) (m0 : M q 0 = nI h) (m3 : M q 3 = nI p) (mc : ∀ k, k ≤ h → M (q + 1) k = nI (c k).val) (hl : LPZ Z h c) (sh : SHZ Z) (mw : ∀ k, k < 9 → M (q + 2) k = nI (w k).val) (hr : RP Z h w e) : ∃ (M' : smM) (w' : Nat → Fin p), m_X3_squareRaised q M = some M' ∧ (∀ k, k < 9 → M' (q + 2) k = nI (w' k).val) ∧ RP Z h w' (e + e) ∧ ∀ r, r ≠ q + 2 → r ≠ q + 3 → M' r = M r := by
  unfold m_X3_squareRaised
  rw [m_clear l3 (by omega), Option.bind_some]
  let Q : Option smM → Prop := fun x => ∃ (M' : smM) (w' : Nat → Fin p), x = some M' ∧ (∀ k, k < 9 → M' (q + 2) k = nI (w' k).val) ∧ RP Z h w' (e + e) ∧ ∀ r, r ≠ q + 2 → r ≠ q + 3 → M' r = M r
  let SQ : smM → (Nat → Fin p) → Prop := fun M' s => (∀ k, k < 18 → M' (q + 3) k = nI (s k).val) ∧ ∀ r, r ≠ q + 3 → M' r = M r
  refine lp_pst h (fun k x => ∃ (M' : smM) (s : Nat → Fin p), x = (nI k, M') ∧ SQ M' s ∧ ∀ d, su (fun j => s j * Z j d) (2 * h - 1) = DS Z h w k 0 d) Q ⟨_, fun _ => 0, rfl, ⟨fun k hk => by rw [fil_in hk]; exact z_fin, fun r hr => fil_o hr⟩, fun d => by rw [DS_0]; exact su_zero' (fun k _ => r_0m _)⟩ (by omega) ?_
  rintro k x hk ⟨M1, s, rfl, ⟨g1, g2⟩, g3⟩ rc
  unfold m_X3_squareRaised_b9
  simp only []
  have n0 : M1 q 0 = nI h := by rw [g2 q (by omega)]; exact m0
  rw [n0]
  by_cases ek : k = h
  · right
    subst ek
    rw [if_pos (Int32.le_refl _)]
    have e2 : (2 : Int32) * nI k - 2 = nI (2 * k - 2) := by
      rw [show (2 : Int32) = nI 2 from rfl, nI_mulN, nI_subN (by omega)]
    rw [e2]
    refine lp_pst k (fun t x => ∃ (M' : smM) (s : Nat → Fin p), x = (nI (2 * k - 2 - t), M') ∧ t ≤ k - 1 ∧ SQ M' s ∧ ∀ d, su (fun j => s j * Z j d) (2 * k - 1 - t) = Z (e + e) d) Q ⟨M1, s, rfl, by omega, ⟨g1, g2⟩, fun d => by rw [show 2 * k - 1 - 0 = 2 * k - 1 by omega, g3 d]; exact DS_e sh hr d⟩ (by omega) ?_
    rintro t x ht ⟨M2, s2, rfl, t1, ⟨y1, y2⟩, y3⟩ rc2
    unfold m_X3_squareRaised_b85
    simp only []
    have n0 : M2 q 0 = nI k := by rw [y2 q (by omega)]; exact m0
    rw [n0]
    by_cases et : t = k - 1
    · right
      rw [if_pos ((nI_lt_iff (by omega) (by omega)).mpr (by omega))]
      refine lp_pst k (fun l x => ∃ (M' : smM), x = (nI l, M') ∧ (∀ j, j < 9 → M' (q + 2) j = nI (if j < l then s2 j else w j).val) ∧ ∀ r, r ≠ q + 2 → M' r = M2 r) Q ⟨M2, rfl, fun j hj => by rw [if_neg (by omega), y2 (q + 2) (by omega)]; exact mw j hj, fun _ _ => rfl⟩ (by omega) ?_
      rintro l x hl2 ⟨M3, rfl, u1, u2⟩ rc3
      unfold m_X3_squareRaised_b164
      simp only []
      rw [u2 q (by omega), n0]
      by_cases el : l = k
      · right
        subst el
        rw [if_pos (Int32.le_refl _)]
        refine ⟨M3, fun j => if j < l then s2 j else w j, rfl, u1, ⟨fun d => ?_, fun j hj => ?_⟩, fun r r1 r2 => (u2 r r1).trans (y2 r r2)⟩
        · have := y3 d
          rw [show 2 * l - 1 - t = l by omega] at this
          rw [← this]
          exact su_cong (fun j hj => by
            show s2 j * Z j d = (if j < l then s2 j else w j) * Z j d
            rw [if_pos hj])
        · show (if j < l then s2 j else w j) = 0
          rw [if_neg (by omega)]; exact hr.2 j hj
      · left
        rw [if_neg (fun w => by rw [nI_le_iff (by omega) (by omega)] at w; omega), cl_nI (n := l) (by omega), l2, l3, if_ck2 (by omega) (by omega), if_ck2 (by omega) (by omega), smB_e, nI_add_1, u2 (q + 3) (by omega), y1 l (by omega)]
        refine ⟨_, by omega, ⟨_, rfl, fun j hj => ?_, fun r hr => (smS_o hr).trans (u2 r hr)⟩, rfl⟩
        by_cases q' : j = l
        · subst q'
          rw [smS_at, if_pos (by omega)]
        · rw [smS_ne q', u1 j hj]
          by_cases q2 : j < l
          · rw [if_pos q2, if_pos (by omega)]
          · rw [if_neg q2, if_neg (by omega)]
    · have K : ∃ K, 2 * k - 2 - t = K ∧ k ≤ K ∧ K ≤ 2 * k - 2 := ⟨_, rfl, by omega, by omega⟩
      obtain ⟨K, eK, kK, kK2⟩ := K
      rw [eK, if_neg (fun w => by rw [nI_lt_iff (by omega) (by omega)] at w; omega)]
      have y3' : ∀ d, su (fun j => s2 j * Z j d) K + s2 K * Z K d = Z (e + e) d := fun d => by
        have := y3 d
        rw [show 2 * k - 1 - t = K + 1 by omega] at this
        exact this
      refine lp_pst k (fun l x => ∃ (M' : smM) (s : Nat → Fin p), x = (nI l, M') ∧ SQ M' s ∧ s K = s2 K ∧ ∀ d, su (fun j => s j * Z j d) K + s2 K * Z K d + s2 K * su (fun l' => c l' * Z (K - k + l') d) l = Z (e + e) d) (fun x => (∃ s', t < k ∧ (∃ (M' : smM) (s : Nat → Fin p), s' = (nI (2 * k - 2 - (t + 1)), M') ∧ t + 1 ≤ k - 1 ∧ SQ M' s ∧ ∀ d, su (fun j => s j * Z j d) (2 * k - 1 - (t + 1)) = Z (e + e) d) ∧ x = rc2 s') ∨ Q x) ⟨M2, s2, rfl, ⟨y1, y2⟩, rfl, fun d => by
        have := y3' d
        simp only [su]
        grind⟩ (by omega) ?_
      rintro l x hl2 ⟨M3, s3, rfl, ⟨z1, z2⟩, z3, z4⟩ rc3
      unfold m_X3_squareRaised_b95
      simp only []
      have n0 : M3 q 0 = nI k := by rw [z2 q (by omega)]; exact m0
      have n3 : M3 q 3 = nI p := by rw [z2 q (by omega)]; exact m3
      rw [n0, n3]
      by_cases el : l = k
      · right
        left
        subst el
        rw [if_pos (Int32.le_refl _), show nI K + (-1 : Int32) = nI (K - 1) by
          rw [show (-1 : Int32) = jI (-1) from rfl, jI_nI, jI_nI, jI_add]; congr 1; omega]
        refine ⟨_, by omega, ⟨M3, s3, by rw [show 2 * l - 2 - (t + 1) = K - 1 by omega], by omega, ⟨z1, z2⟩, fun d => ?_⟩, rfl⟩
        rw [show 2 * l - 1 - (t + 1) = K by omega]
        have a := z4 d
        have b := hl.rule sh (K - l) d
        rw [show l + (K - l) = K by omega] at b
        have e3 : su (fun l' => c l' * Z (K - l + l') d) l = su (fun k => c k * Z (k + (K - l)) d) l := su_cong (fun j _ => by rw [show K - l + j = j + (K - l) by omega])
        rw [e3] at a
        grind
      · left
        have ei : nI K - nI k + nI l = nI (K - k + l) := by rw [nI_subN kK, nI_ad]
        rw [if_neg (fun w => by rw [nI_le_iff (by omega) (by omega)] at w; omega), ei, cl_nI (n := K - k + l) (by omega), cl_nI (n := K) (by omega), cl_nI (n := l) (by omega), l3, l1, if_ck2 (by omega) (by omega), if_ck2 (by omega) (by omega), if_ck2 (by omega) (by omega), z1 (K - k + l) (by omega), z1 K (by omega), z2 (q + 1) (by omega), mc l (by omega), lo_sub hp hp2, Option.bind_some, if_ck2 (by omega) (by omega), smB_e, nI_add_1, z3]
        refine ⟨_, by omega, ⟨_, up1 s3 (K - k + l) (s3 (K - k + l) - s2 K * c l), rfl, ⟨fun j hj => ?_, fun r hr => (smS_o hr).trans (z2 r hr)⟩, ?_, fun d => ?_⟩, rfl⟩
        · by_cases q' : j = K - k + l
          · subst q'; rw [smS_at, up1_s]
          · rw [smS_ne q', up1_n q']; exact z1 j hj
        · rw [up1_n (by omega)]; exact z3
        · rw [su_up1 s3 Z _ d (show K - k + l < K by omega)]
          have a := z4 d
          simp only [su]
          grind
  · rw [if_neg (fun w => by rw [nI_le_iff (by omega) (by omega)] at w; omega)]
    refine lp_pst h (fun l x => ∃ (M' : smM) (s : Nat → Fin p), x = (nI l, M') ∧ SQ M' s ∧ ∀ d, su (fun j => s j * Z j d) (2 * h - 1) = DS Z h w k l d) (fun x => (∃ s', k < h ∧ (∃ (M' : smM) (s : Nat → Fin p), s' = (nI (k + 1), M') ∧ SQ M' s ∧ ∀ d, su (fun j => s j * Z j d) (2 * h - 1) = DS Z h w (k + 1) 0 d) ∧ x = rc s') ∨ Q x) ⟨M1, s, rfl, ⟨g1, g2⟩, g3⟩ (by omega) ?_
    rintro l x hl2 ⟨M2, s2, rfl, ⟨y1, y2⟩, y3⟩ rc2
    unfold m_X3_squareRaised_b19
    simp only []
    have n0 : M2 q 0 = nI h := by rw [y2 q (by omega)]; exact m0
    have n3 : M2 q 3 = nI p := by rw [y2 q (by omega)]; exact m3
    rw [n0, n3]
    by_cases el : l = h
    · right
      left
      subst el
      rw [if_pos (Int32.le_refl _), nI_add_1]
      exact ⟨_, by omega, ⟨M2, s2, rfl, ⟨y1, y2⟩, fun d => by rw [DS_r]; exact y3 d⟩, rfl⟩
    · left
      rw [if_neg (fun w => by rw [nI_le_iff (by omega) (by omega)] at w; omega), nI_ad, cl_nI (n := k + l) (by omega), cl_nI (n := k) (by omega), cl_nI (n := l) (by omega), l3, l2, if_ck2 (by omega) (by omega), if_ck2 (by omega) (by omega), if_ck2 (by omega) (by omega), y1 (k + l) (by omega), y2 (q + 2) (by omega), mw k (by omega), mw l (by omega), lo_add hp hp2, Option.bind_some, if_ck2 (by omega) (by omega), smB_e, nI_add_1]
      refine ⟨_, by omega, ⟨_, up1 s2 (k + l) (s2 (k + l) + w k * w l), rfl, ⟨fun j hj => ?_, fun r hr => (smS_o hr).trans (y2 r hr)⟩, fun d => ?_⟩, rfl⟩
      · by_cases q' : j = k + l
        · subst q'; rw [smS_at, up1_s]
        · rw [smS_ne q', up1_n q']; exact y1 j hj
      · rw [su_up1 s2 Z _ d (show k + l < 2 * h - 1 by omega), y3 d, DS_s]
        grind
theorem su_first {K : Type} [Lean.Grind.CommRing K] (f : Nat → K) : ∀ n : Nat, su f (n + 1) = f 0 + su (fun k => f (k + 1)) n
  | 0 => by simp only [su]; grind
  | n + 1 => by
    rw [su, su_first f n]
    simp only [su]
    grind
theorem m_shift {q p h e : Nat} [NeZero p] {Z : Nat → Nat → Fin p} {c w : Nat → Fin p} {M : smM} (l1 : smLn (q + 1) = 10) (l2 : smLn (q + 2) = 9) (hp : 2 ≤ p) (hp2 : p ≤ 97) (h1 : 1 ≤ h) (h9 : h ≤ 9) (m0 : M q 0 = nI h) (m3 : M q 3 = nI p) (mc : ∀ k, k ≤ h → M (q + 1) k = nI (c k).val) (hl : LPZ Z h c) (sh : SHZ Z) (mw : ∀ k, k < 9 → M (q + 2) k = nI (w k).val) (hr : RP Z h w e) : ∃ (M' : smM) (w' : Nat → Fin p), m_X3_shiftRaised q M = some M' ∧ (∀ k, k < 9 → M' (q + 2) k = nI (w' k).val) ∧ RP Z h w' (e + 1) ∧ ∀ r, r ≠ q + 2 → M' r = M r := by
  unfold m_X3_shiftRaised
  rw [m0, sub1 h1, if_pos (show (1 : Int32) ≤ nI h from (nI_le_iff (a := 1) (by omega) (by omega)).mpr h1), cl_nI (n := h - 1) (by omega), l2, if_ck2 (by omega) (by omega), mw (h - 1) (by omega)]
  let W : Nat → Nat → Fin p := fun K j => if K < j ∧ j < h then w (j - 1) - w (h - 1) * c j else w j
  refine lp_pst (h - 1) (fun t x => ∃ (M' : smM), x = (nI (h - 1 - t), M') ∧ (∀ j, j < 9 → M' (q + 2) j = nI (W (h - 1 - t) j).val) ∧ ∀ r, r ≠ q + 2 → M' r = M r) (fun x => ∃ (M' : smM) (w' : Nat → Fin p), x = some M' ∧ (∀ k, k < 9 → M' (q + 2) k = nI (w' k).val) ∧ RP Z h w' (e + 1) ∧ ∀ r, r ≠ q + 2 → M' r = M r) ⟨M, rfl, fun j hj => by
    show _ = nI (if h - 1 - 0 < j ∧ j < h then _ else w j).val
    rw [if_neg (by omega)]; exact mw j hj, fun _ _ => rfl⟩ (by omega) ?_
  rintro t x ht ⟨M1, rfl, g1, g2⟩ rc
  unfold m_X3_shiftRaised_b28
  simp only []
  rw [g2 q (by omega), m3]
  by_cases et : t = h - 1
  · right
    have e0 : h - 1 - t = 0 := by omega
    rw [e0] at g1
    rw [e0, if_pos (show nI 0 ≤ (0 : Int32) from Int32.le_refl _), c0_cl, l1, ck_0 (by omega), g2 (q + 1) (by omega), mc 0 (by omega), lo_neg hp hp2, Option.bind_some, l2, ck_0 (by omega), smB_e]
    refine ⟨_, fun j => if j = 0 then 0 - w (h - 1) * c 0 else W 0 j, rfl, fun j hj => ?_, ⟨fun d => ?_, fun j hj => ?_⟩, fun r hr => (smS_o hr).trans (g2 r hr)⟩
    · show _ = nI (if j = 0 then 0 - w (h - 1) * c 0 else W 0 j).val
      by_cases q' : j = 0
      · subst q'
        rw [smS_at, if_pos rfl]
      · rw [smS_ne q', if_neg q']; exact g1 j hj
    · -- the sum
      obtain ⟨n, rfl⟩ : ∃ n, h = n + 1 := ⟨h - 1, by omega⟩
      have a := sh (n + 1) w (fun k => k) e hr.1 1 d
      have b := hl.rule sh 0 d
      rw [a]
      have e1 : su (fun k => (if k = 0 then 0 - w (n + 1 - 1) * c 0 else W 0 k) * Z k d) (n + 1) = su (fun k => (if k = 0 then 0 else w (k - 1)) * Z k d + -(w n * (c k * Z k d))) (n + 1) := su_cong (fun k hk => by
        by_cases q' : k = 0
        · subst q'
          rw [if_pos rfl, if_pos rfl, show n + 1 - 1 = n from rfl]; grind
        · rw [if_neg q', if_neg q']
          show (if 0 < k ∧ k < n + 1 then w (k - 1) - w (n + 1 - 1) * c k else w k) * Z k d = _
          rw [if_pos (by omega), show n + 1 - 1 = n from rfl]; grind)
      rw [e1, su_add, su_neg, su_mul, su_first (fun k => (if k = 0 then 0 else w (k - 1)) * Z k d) n]
      have e2 : su (fun k => (if k + 1 = 0 then 0 else w (k + 1 - 1)) * Z (k + 1) d) n = su (fun k => w k * Z (k + 1) d) n := su_cong (fun k _ => by rw [if_neg (by omega), Nat.add_sub_cancel])
      simp only [if_pos] at *
      rw [e2]
      simp only [su] at a b ⊢
      rw [show n + 1 + 0 = n + 1 from rfl] at b
      simp only [Nat.add_zero] at b
      grind
    · show (if j = 0 then 0 - w (h - 1) * c 0 else W 0 j) = 0
      rw [if_neg (by omega)]
      show (if 0 < j ∧ j < h then _ else w j) = 0
      rw [if_neg (by omega)]; exact hr.2 j hj
  · left
    have K : ∃ K, h - 1 - t = K ∧ 1 ≤ K ∧ K < h := ⟨_, rfl, by omega, by omega⟩
    obtain ⟨K, eK, kK, kK2⟩ := K
    rw [eK] at g1
    have wl : W K (K - 1) = w (K - 1) := by
      show (if K < K - 1 ∧ K - 1 < h then _ else w (K - 1)) = _
      rw [if_neg (by omega)]
    rw [eK, if_neg (show ¬ nI K ≤ (0 : Int32) from fun w => by rw [show (0 : Int32) = nI 0 from rfl, nI_le_iff (by omega) (by omega)] at w; omega), sub1 kK, cl_nI (n := K - 1) (by omega), cl_nI (n := K) (by omega), l2, l1, if_ck2 (by omega) (by omega), if_ck2 (by omega) (by omega), g1 (K - 1) (by omega), wl, g2 (q + 1) (by omega), mc K (by omega), lo_sub hp hp2, Option.bind_some, if_ck2 (by omega) (by omega), smB_e, show nI K + (-1 : Int32) = nI (K - 1) by
      rw [show (-1 : Int32) = jI (-1) from rfl, jI_nI, jI_nI, jI_add]; congr 1; omega]
    refine ⟨_, by omega, ⟨_, by rw [show h - 1 - (t + 1) = K - 1 by omega], fun j hj => ?_, fun r hr => (smS_o hr).trans (g2 r hr)⟩, rfl⟩
    rw [show h - 1 - (t + 1) = K - 1 by omega]
    by_cases q' : j = K
    · subst q'
      rw [smS_at]
      show _ = nI (if j - 1 < j ∧ j < h then w (j - 1) - w (h - 1) * c j else w j).val
      rw [if_pos (by omega)]
    · rw [smS_ne q', g1 j hj]
      show nI (if K < j ∧ j < h then w (j - 1) - w (h - 1) * c j else w j).val = nI (if K - 1 < j ∧ j < h then w (j - 1) - w (h - 1) * c j else w j).val
      by_cases q2 : K < j ∧ j < h
      · rw [if_pos q2, if_pos (by omega)]
      · rw [if_neg q2, if_neg (by omega)]
