/-! values at a pair of numbers, by the class and by the reference -/
theorem lo_mul {p : Nat} [NeZero p] (hp : 2 ≤ p) (hp2 : p ≤ 97) (b c : Fin p) (M : smM) : m_X11_leftOver (nI b.val * nI c.val) (nI p) M = some (nI (b * c).val) := by
  have h2 := b.isLt
  have h3 := c.isLt
  have hm : b.val * c.val ≤ 97 * 97 := Nat.mul_le_mul (by omega) (by omega)
  have hm2 : ((b.val * c.val : Nat) : Int) = (b.val : Int) * (c.val : Int) := Int.natCast_mul _ _
  rw [jI_nI b.val, jI_nI c.val, jI_mul, m_leftOver (by omega) (by omega) hp (by omega)]
  rw [← fz_mulz, fz_self, fz_self]
theorem lo_mad {p : Nat} [NeZero p] (hp : 2 ≤ p) (hp2 : p ≤ 97) (b c a : Fin p) (M : smM) : m_X11_leftOver (nI b.val * nI c.val + nI a.val) (nI p) M = some (nI (b * c + a).val) := by
  have h1 := a.isLt
  have h2 := b.isLt
  have h3 := c.isLt
  have hm : b.val * c.val ≤ 97 * 97 := Nat.mul_le_mul (by omega) (by omega)
  have hm2 : ((b.val * c.val : Nat) : Int) = (b.val : Int) * (c.val : Int) := Int.natCast_mul _ _
  rw [jI_nI a.val, jI_nI b.val, jI_nI c.val, jI_mul, jI_add, m_leftOver (by omega) (by omega) hp (by omega)]
  rw [← fz_addz, ← fz_mulz, fz_self, fz_self, fz_self]
theorem rm_mul {p : Nat} [NeZero p] (hp2 : p ≤ 97) (v x : Fin p) : nI v.val * nI x.val - nI v.val * nI x.val / nI p * nI p = nI (v * x).val := by
  rw [mul_nI hp2 v x.isLt, fz_self, r_mc]
theorem rm_mac {p : Nat} [NeZero p] (hp2 : p ≤ 97) (v c w : Fin p) : (nI v.val + nI c.val * nI w.val) - (nI v.val + nI c.val * nI w.val) / nI p * nI p = nI (v + c * w).val := by
  have := c.isLt
  rw [mac_nI hp2 v w (c := c.val) (by omega), fz_self]
theorem fz_x {p x : Nat} [NeZero p] (h : x < p) : nI x = nI (fz p (x : Int)).val := by rw [fz_nat, Nat.mod_eq_of_lt h]
theorem one_nI {p : Nat} [NeZero p] (hp : 2 ≤ p) : (1 : Int32) = nI ((1 : Fin p).val) := by
  have : (1 : Fin p).val = 1 := by
    show 1 % p = 1
    exact Nat.mod_eq_of_lt (by omega)
  rw [this]; rfl
theorem m_lstZero {q p h x : Nat} [NeZero p] {c : Nat → Fin p} {M : smM} (l1 : smLn (q + 1) = 10) (hp : 2 ≤ p) (hp2 : p ≤ 97) (h9 : h ≤ 9) (m0 : M q 0 = nI h) (m3 : M q 3 = nI p) (mc : ∀ k, k ≤ h → M (q + 1) k = nI (c k).val) (hx : x < p) : m_X3_isZeroAt q (nI x) M = if su (fun k => c k * fpw (fz p (x : Int)) k) (h + 1) = 0 then some 1 else some 0 := by
  unfold m_X3_isZeroAt
  rw [m0, fz_x hx]
  generalize fz p (x : Int) = a
  refine lp_cnt (h + 1) (fun t => (nI (su (fun k => c (h + 1 - t + k) * fpw a k) t).val, jI ((h : Int) - t))) ?_ (by omega) (fun t ht rc => ?_) (fun rc => ?_)
  · show ((0 : Int32), nI h) = (nI (0 : Fin p).val, jI ((h : Int) - (0 : Nat)))
    rw [← z_fin, jI_nI]
    congr 2
  · unfold m_X3_isZeroAt_b7
    simp only []
    have K : ∃ K, h = K + t := ⟨h - t, by omega⟩
    obtain ⟨K, rfl⟩ := K
    have ej : jI (((K + t : Nat) : Int) - t) = nI K := by rw [jI_nI]; congr 1; omega
    have e9 : nI K + (-1 : Int32) = jI (((K + t : Nat) : Int) - ((t + 1 : Nat) : Int)) := by
      rw [show (-1 : Int32) = jI (-1) from rfl, jI_nI, jI_add]; congr 1; omega
    have ev : su (fun k => c (K + t + 1 - t + k) * fpw a k) t * a + c K = su (fun k => c (K + t + 1 - (t + 1) + k) * fpw a k) (t + 1) := by
      rw [su_first, show K + t + 1 - (t + 1) + 0 = K by omega]
      have e5 : su (fun k => c (K + t + 1 - (t + 1) + (k + 1)) * fpw a (k + 1)) t = a * su (fun k => c (K + t + 1 - t + k) * fpw a k) t := by
        rw [← su_mul]
        refine su_cong (fun k _ => ?_)
        show c (K + t + 1 - (t + 1) + (k + 1)) * (fpw a k * a) = _
        rw [show K + t + 1 - (t + 1) + (k + 1) = K + t + 1 - t + k by omega]
        grind
      rw [e5]
      show _ = c K * 1 + _
      grind
    rw [ej, if_lt0 (by omega), cl_nI (n := K) (by omega), l1, if_ck2 (by omega) (by omega), mc K (by omega), m3, lo_mad hp hp2, Option.bind_some, e9, ev]
  · unfold m_X3_isZeroAt_b7
    simp only []
    rw [if_pos (show jI ((h : Int) - ((h + 1 : Nat) : Int)) < (0 : Int32) by rw [show (0 : Int32) = jI 0 from rfl, jI_lt (by omega) (by omega) (by omega) (by omega)]; omega)]
    have e5 : su (fun k => c (h + 1 - (h + 1) + k) * fpw a k) (h + 1) = su (fun k => c k * fpw a k) (h + 1) := su_cong (fun k _ => by rw [show h + 1 - (h + 1) + k = k by omega])
    rw [e5]
    by_cases z : su (fun k => c k * fpw a k) (h + 1) = 0
    · rw [if_pos z, if_pos ((fin_z hp2 _).mpr z)]
    · rw [if_neg z, if_neg (fun w => z ((fin_z hp2 _).mp w))]
/-- F (o = 0) or G (1) at a, b -/
def evO {p : Nat} [NeZero p] (o A B : Nat) (F G : Nat → Nat → Fin p) (a b : Fin p) : Fin p := if o = 0 then evF A F a b else evG B G a b
def vJ {p : Nat} [NeZero p] (P : Nat) (C : Nat → Nat → Fin p) (s a b : Fin p) (j i : Nat) : Fin p := s + (su (fun j' => su (fun i' => C i' j' * (fpw a i' * fpw b j')) (P - j')) j + su (fun i' => C i' j * (fpw a i' * fpw b j)) i)
theorem m_setZero {p o x y A B u v : Nat} [NeZero p] {F G : Nat → Nat → Fin p} {M : smM} (hp : 2 ≤ p) (hp2 : p ≤ 97) (hA3 : A ≤ 3) (hB3 : B ≤ 3) (hS : SET M 1 p A B u v F G) (ho : o < 2) (hx : x < p) (hy : y < p) : m_X7_isZeroAt 1 (nI o) (nI x) (nI y) M = if evO o A B F G (fz p (x : Int)) (fz p (y : Int)) = 0 then some 1 else some 0 := by
  have h0 : M 1 0 = nI p := hS.1
  have hco : m_X7_coefficients 1 (nI o) M = some (2 + o) := by
    unfold m_X7_coefficients
    rcases (show o = 0 ∨ o = 1 by omega) with rfl | rfl
    · rw [if_pos n_00]
    · rw [if_neg n_10]
  unfold m_X7_isZeroAt
  rw [hco, Option.bind_some, m_power ho hS.2.1 hS.2.2.1, Option.bind_some, fz_x hx, fz_x hy]
  generalize fz p (x : Int) = a
  generalize fz p (y : Int) = b
  have hP : (if o = 0 then A else B) ≤ 3 := by split <;> omega
  have hC : ∀ k l, k < 3 → l < 3 → M (2 + o) (3 * l + k) = nI ((if o = 0 then F else G) k l).val := fun k l hk hl => by
    rcases (show o = 0 ∨ o = 1 by omega) with rfl | rfl
    · exact hS.2.2.2.2.2.1 k l hk hl
    · exact hS.2.2.2.2.2.2 k l hk hl
  have hL : smLn (2 + o) = 9 := by
    rcases (show o = 0 ∨ o = 1 by omega) with rfl | rfl
    · exact g_2
    · exact g_3
  have hev : evO o A B F G a b = fpw (if o = 0 then a else b) (if o = 0 then A else B) + dd (if o = 0 then F else G) (if o = 0 then A else B) (fun i j => fpw a i * fpw b j) := by
    unfold evO evF evG
    rcases (show o = 0 ∨ o = 1 by omega) with rfl | rfl
    · rfl
    · rfl
  rw [hev]
  generalize hbs : (if o = 0 then a else b) = bs
  generalize (if o = 0 then A else B) = P at hP
  generalize (if o = 0 then F else G) = C at hC
  have vs : ∀ s j i, vJ P C s a b j (i + 1) = vJ P C s a b j i + C i j * (fpw b j * fpw a i) := fun s j i => by
    unfold vJ
    simp only [su]
    grind
  have vr : ∀ s j, vJ P C s a b (j + 1) 0 = vJ P C s a b j (P - j) := fun s j => by
    unfold vJ
    simp only [su]
    grind
  have v0 : ∀ s, vJ P C s a b 0 0 = s := fun s => by
    unfold vJ
    simp only [su]
    grind
  have ve : ∀ s, vJ P C s a b P 0 = s + dd C P (fun i j => fpw a i * fpw b j) := fun s => by
    unfold vJ
    rw [dd_tri C P (fun i j => fpw a i * fpw b j)]
    simp only [su]
    grind
  refine lp_cnt P (fun k => (nI (fpw bs k).val, nI k)) ?_ (by omega) (fun k hk rc => ?_) (fun rc => ?_)
  · show ((1 : Int32), (0 : Int32)) = (nI (1 : Fin p).val, nI 0)
    rw [← one_nI hp]; rfl
  · unfold m_X7_isZeroAt_b20
    simp only []
    rw [if_neg (fun w => by rw [nI_le_iff (by omega) (by omega)] at w; omega), h0, lo_mul hp hp2, Option.bind_some, lo_mul hp hp2, Option.bind_some, nI_add_1]
    rcases (show o = 0 ∨ o = 1 by omega) with rfl | rfl
    · rw [if_pos n_00]
      rw [if_pos rfl] at hbs
      rw [hbs]; rfl
    · rw [if_neg n_10]
      rw [if_neg (by decide)] at hbs
      rw [hbs]; rfl
  · unfold m_X7_isZeroAt_b20
    simp only []
    rw [if_pos (Int32.le_refl _)]
    generalize fpw bs P = s
    refine lp_cnt P (fun j => (nI (vJ P C s a b j 0).val, nI (fpw b j).val, nI j)) ?_ (by omega) (fun j hj rc2 => ?_) (fun rc2 => ?_)
    · rw [v0]
      show (nI s.val, (1 : Int32), (0 : Int32)) = (nI s.val, nI (1 : Fin p).val, nI 0)
      rw [← one_nI hp]; rfl
    · unfold m_X7_isZeroAt_b60
      simp only []
      rw [if_neg (fun w => by rw [nI_le_iff (by omega) (by omega)] at w; omega)]
      refine lp_cnt (P - j) (fun i => (nI (vJ P C s a b j i).val, nI (fpw b j * fpw a i).val, nI i)) ?_ (by omega) (fun i hi rc3 => ?_) (fun rc3 => ?_)
      · show (_, nI (fpw b j).val, (0 : Int32)) = (_, nI (fpw b j * 1).val, nI 0)
        rw [show fpw b j * 1 = fpw b j by grind]; rfl
      · unfold m_X7_isZeroAt_b74
        simp only []
        rw [nI_subN (by omega), if_neg (fun w => by rw [nI_le_iff (by omega) (by omega)] at w; omega), show (3 : Int32) * nI j + nI i = nI (3 * j + i) by rw [show (3 : Int32) = nI 3 from rfl, nI_mulN, nI_ad], cl_nI (n := 3 * j + i) (by omega), hL, if_ck2 (by omega) (by omega), hC i j (by omega) (by omega), h0, lo_add hp hp2, Option.bind_some, lo_mul hp hp2, Option.bind_some, nI_add_1, vs]
        rw [show fpw b j * fpw a i * a = fpw b j * fpw a (i + 1) from by
          show _ = fpw b j * (fpw a i * a)
          grind]
      · unfold m_X7_isZeroAt_b74
        simp only []
        rw [nI_subN (by omega), if_pos (Int32.le_refl _), h0, lo_mul hp hp2, Option.bind_some, nI_add_1, ← vr]
        rfl
    · unfold m_X7_isZeroAt_b60
      simp only []
      rw [if_pos (Int32.le_refl _), ve]
      by_cases z : s + dd C P (fun i j => fpw a i * fpw b j) = 0
      · rw [if_pos z, if_pos ((fin_z hp2 _).mpr z)]
      · rw [if_neg z, if_neg (fun w => z ((fin_z hp2 _).mp w))]
def vI {p : Nat} [NeZero p] (P : Nat) (C : Nat → Nat → Fin p) (s a b : Fin p) (i j : Nat) : Fin p := s + (su (fun i' => su (fun j' => C i' j' * (fpw a i' * fpw b j')) (P - i')) i + su (fun j' => C i j' * (fpw a i * fpw b j')) j)
theorem m12_valueOf {p o x y A B u v : Nat} [NeZero p] {F G : Nat → Nat → Fin p} {M : smM} (hp : 2 ≤ p) (hp2 : p ≤ 97) (hA3 : A ≤ 3) (hB3 : B ≤ 3) (hS : SET2 M p A B u v F G) (ho : o < 2) (hx : x < p) (hy : y < p) : m_X12_valueOf 1000 (nI o) (nI x) (nI y) M = some (nI (evO o A B F G (fz p (x : Int)) (fz p (y : Int))).val) := by
  have h0 : M 1000 0 = nI p := hS.1
  have hne : ¬ nI p = 0 := nI_ne0 (by omega) (by omega)
  have e0 : m_X12_valueOf 1000 (nI o) (nI x) (nI y) M = m_X12_valueOf_j26 1000 (nI o) (nI x) (nI y) (nI (if o = 0 then A else B)) M (nI (if o = 0 then x else y)) := by
    unfold m_X12_valueOf m_X12_valueOf_j15
    rw [hS.2.1, hS.2.2.1]
    rcases (show o = 0 ∨ o = 1 by omega) with rfl | rfl
    · rw [if_pos n_00, if_pos n_00, if_pos rfl, if_pos rfl]
    · rw [if_neg n_10, if_neg n_10, if_neg (by decide), if_neg (by decide)]
  have e1 : nI (if o = 0 then x else y) = nI (if o = 0 then fz p (x : Int) else fz p (y : Int)).val := by
    rcases (show o = 0 ∨ o = 1 by omega) with rfl | rfl
    · rw [if_pos rfl, if_pos rfl]; exact fz_x hx
    · rw [if_neg (by decide), if_neg (by decide)]; exact fz_x hy
  rw [e0, e1, fz_x hx, fz_x hy]
  unfold m_X12_valueOf_j26
  generalize fz p (x : Int) = a
  generalize fz p (y : Int) = b
  have hP : (if o = 0 then A else B) ≤ 3 := by split <;> omega
  have hC : ∀ k l, k < 3 → l < 3 → M 1001 (9 * o + 3 * k + l) = nI ((if o = 0 then F else G) k l).val := fun k l hk hl => by
    rcases (show o = 0 ∨ o = 1 by omega) with rfl | rfl
    · rw [show 9 * 0 + 3 * k + l = 3 * k + l by omega]; exact hS.2.2.2.2.2.1 k l hk hl
    · exact hS.2.2.2.2.2.2 k l hk hl
  have hev : evO o A B F G a b = fpw (if o = 0 then a else b) (if o = 0 then A else B) + dd (if o = 0 then F else G) (if o = 0 then A else B) (fun i j => fpw a i * fpw b j) := by
    unfold evO evF evG
    rcases (show o = 0 ∨ o = 1 by omega) with rfl | rfl
    · rfl
    · rfl
  rw [hev]
  generalize (if o = 0 then a else b) = bs
  generalize (if o = 0 then A else B) = P at hP
  generalize (if o = 0 then F else G) = C at hC
  have vs : ∀ s i j, vI P C s a b i (j + 1) = vI P C s a b i j + C i j * (fpw a i * fpw b j) := fun s i j => by
    unfold vI
    simp only [su]
    grind
  have vr : ∀ s i, vI P C s a b (i + 1) 0 = vI P C s a b i (P - i) := fun s i => by
    unfold vI
    simp only [su]
    grind
  have v0 : ∀ s, vI P C s a b 0 0 = s := fun s => by
    unfold vI
    simp only [su]
    grind
  have ve : ∀ s, vI P C s a b P 0 = s + dd C P (fun i j => fpw a i * fpw b j) := fun s => by
    unfold vI dd
    simp only [su]
    grind
  refine lp_cnt P (fun k => (nI (fpw bs k).val, nI k)) ?_ (by omega) (fun k hk rc => ?_) (fun rc => ?_)
  · show ((1 : Int32), (0 : Int32)) = (nI (1 : Fin p).val, nI 0)
    rw [← one_nI hp]; rfl
  · unfold m_X12_valueOf_b34
    simp only []
    rw [if_neg (fun w => by rw [nI_le_iff (by omega) (by omega)] at w; omega), h0, if_neg hne, rm_mul hp2, nI_add_1]
    rfl
  · unfold m_X12_valueOf_b34
    simp only []
    rw [if_pos (Int32.le_refl _)]
    generalize fpw bs P = s
    refine lp_cnt P (fun i => (nI (vI P C s a b i 0).val, nI (fpw a i).val, nI i)) ?_ (by omega) (fun i hi rc2 => ?_) (fun rc2 => ?_)
    · rw [v0]
      show (nI s.val, (1 : Int32), (0 : Int32)) = (nI s.val, nI (1 : Fin p).val, nI 0)
      rw [← one_nI hp]; rfl
    · unfold m_X12_valueOf_b65
      simp only []
      rw [if_neg (fun w => by rw [nI_le_iff (by omega) (by omega)] at w; omega)]
      refine lp_cnt (P - i) (fun j => (nI (vI P C s a b i j).val, nI (fpw a i * fpw b j).val, nI j)) ?_ (by omega) (fun j hj rc3 => ?_) (fun rc3 => ?_)
      · show (_, nI (fpw a i).val, (0 : Int32)) = (_, nI (fpw a i * 1).val, nI 0)
        rw [show fpw a i * 1 = fpw a i by grind]; rfl
      · unfold m_X12_valueOf_b79
        simp only []
        rw [nI_ad, if_neg (fun w => by rw [nI_le_iff (by omega) (by omega)] at w; omega), show (9 : Int32) * nI o + (3 : Int32) * nI i + nI j = nI (9 * o + 3 * i + j) by rw [show (9 : Int32) = nI 9 from rfl, show (3 : Int32) = nI 3 from rfl, nI_mulN, nI_mulN, nI_ad, nI_ad], cl_nI (n := 9 * o + 3 * i + j) (by omega), show smLn (1000 + 1) = 18 from g_1001, if_ck2 (by omega) (by omega), h0, if_neg hne, if_neg hne, show M (1000 + 1) (9 * o + 3 * i + j) = _ from hC i j (by omega) (by omega), rm_mac hp2, rm_mul hp2, nI_add_1, vs]
        rw [show fpw a i * fpw b j * b = fpw a i * fpw b (j + 1) from by
          show _ = fpw a i * (fpw b j * b)
          grind]
      · unfold m_X12_valueOf_b79
        simp only []
        rw [nI_ad, if_pos (by rw [nI_le_iff (by omega) (by omega)]; omega), h0, if_neg hne, rm_mul hp2, nI_add_1, ← vr]
        rfl
    · unfold m_X12_valueOf_b65
      simp only []
      rw [if_pos (Int32.le_refl _), ve]
