/-! the vector of a term, by the class -/
theorem sh31 : ∀ n, n < 31 → ((nI n &&& 31).toBitVec.smod 32).toNat = n := by decide +kernel
theorem dec1 {T t : Nat} : jI ((T : Int) - t) + (-1 : Int32) = jI ((T : Int) - ((t + 1 : Nat) : Int)) := by
  rw [show (-1 : Int32) = jI (-1) from rfl, jI_add]; congr 1; omega
theorem jI_nat {T t : Nat} (h : t ≤ T) : jI ((T : Int) - t) = nI (T - t) := by rw [jI_nI]; congr 1; omega
theorem RP_0 {p : Nat} [NeZero p] {Z : Nat → Nat → Fin p} {h : Nat} (h1 : 1 ≤ h) : RP Z h (fun k => if k = 0 then 1 else 0) 0 := by
  refine ⟨fun d => ?_, fun k hk => ?_⟩
  · have e : su (fun k => (if k = 0 then (1 : Fin p) else 0) * Z k d) h = (if (0 : Nat) = 0 then (1 : Fin p) else 0) * Z 0 d := su_one (i := 0) (fun k => (if k = 0 then (1 : Fin p) else 0) * Z k d) (by omega) (fun k _ hk => by
      show (if k = 0 then (1 : Fin p) else 0) * Z k d = 0
      rw [if_neg hk, r_0m])
    rw [if_pos rfl, r_1m] at e
    exact e.symm
  · show (if k = 0 then (1 : Fin p) else 0) = 0
    rw [if_neg (by omega)]
theorem m_raise {q p h P : Nat} [NeZero p] {Z : Nat → Nat → Fin p} {c : Nat → Fin p} {M : smM} (l1 : smLn (q + 1) = 10) (l2 : smLn (q + 2) = 9) (l3 : smLn (q + 3) = 18) (hp : 2 ≤ p) (hp2 : p ≤ 97) (h1 : 1 ≤ h) (h9 : h ≤ 9) (m0 : M q 0 = nI h) (m3 : M q 3 = nI p) (mc : ∀ k, k ≤ h → M (q + 1) k = nI (c k).val) (hl : LPZ Z h c) (sh : SHZ Z) (hP : P < 2147483648) : ∃ (M' : smM) (w : Nat → Fin p), m_X3_raise q (nI P) M = some M' ∧ (∀ k, k < 9 → M' (q + 2) k = nI (w k).val) ∧ RP Z h w P ∧ ∀ r, r ≠ q + 2 → r ≠ q + 3 → M' r = M r := by
  unfold m_X3_raise
  rw [m_clear l2 (by omega), Option.bind_some, c0_cl, l2, ck_0 (by omega), smB_e]
  have v1 : (1 : Fin p).val = 1 := by
    show 1 % p = 1
    exact Nat.mod_eq_of_lt (by omega)
  refine lp_pst 31 (fun t x => ∃ (M' : smM) (w : Nat → Fin p), x = ((if P / 2 ^ (31 - t) = 0 then (0 : Int32) else 1), jI (((30 : Nat) : Int) - t), M') ∧ (∀ k, k < 9 → M' (q + 2) k = nI (w k).val) ∧ RP Z h w (P / 2 ^ (31 - t)) ∧ ∀ r, r ≠ q + 2 → r ≠ q + 3 → M' r = M r) (fun x => ∃ (M' : smM) (w : Nat → Fin p), x = some M' ∧ (∀ k, k < 9 → M' (q + 2) k = nI (w k).val) ∧ RP Z h w P ∧ ∀ r, r ≠ q + 2 → r ≠ q + 3 → M' r = M r) ⟨smS (fil M (q + 2) (fun _ => 0) 9) (q + 2) 0 1, fun k => if k = 0 then 1 else 0, ?_, fun k hk => ?_, ?_, fun r r1 r2 => ?_⟩ (by omega) ?_
  · rw [if_pos (by omega)]; rfl
  · by_cases e : k = 0
    · subst e
      rw [smS_at]
      show (1 : Int32) = nI (if (0 : Nat) = 0 then (1 : Fin p) else 0).val
      rw [if_pos rfl, v1]; rfl
    · rw [smS_ne e, fil_in hk]
      show (0 : Int32) = nI (if k = 0 then (1 : Fin p) else 0).val
      rw [if_neg e]; exact z_fin
  · rw [show P / 2 ^ (31 - 0) = 0 by omega]; exact RP_0 h1
  · rw [smS_o r1, fil_o r1]
  rintro t x ht ⟨M1, w, rfl, g1, g2, g3⟩ rc
  unfold m_X3_raise_b19
  simp only []
  by_cases et : t = 31
  · right
    subst et
    rw [if_pos (show jI (((30 : Nat) : Int) - ((31 : Nat) : Int)) < (0 : Int32) by decide)]
    rw [show P / 2 ^ (31 - 31) = P by simp] at g2
    exact ⟨M1, w, rfl, g1, g2, g3⟩
  · left
    rw [jI_nat (T := 30) (t := t) (by omega), if_lt0 (by omega)]
    have hd : P / 2 ^ (31 - t) = P / 2 ^ (30 - t) / 2 := by
      rw [show 31 - t = (30 - t) + 1 by omega, Nat.pow_succ, Nat.div_div_eq_div_mul]
    have hnx : 31 - (t + 1) = 30 - t := by omega
    generalize hE : P / 2 ^ (30 - t) = E at hd
    rw [hd] at g2
    rw [hd]
    -- after the square
    have sq : ∃ (M2 : smM) (w2 : Nat → Fin p), (if (if E / 2 = 0 then (0 : Int32) else 1) = 0 then m_X3_raise_j31 q (nI P) (if E / 2 = 0 then (0 : Int32) else 1) (nI (30 - t)) rc M1 else (m_X3_squareRaised q M1).bind fun M28 => m_X3_raise_j31 q (nI P) (if E / 2 = 0 then (0 : Int32) else 1) (nI (30 - t)) rc M28) = m_X3_raise_j31 q (nI P) (if E / 2 = 0 then (0 : Int32) else 1) (nI (30 - t)) rc M2 ∧ (∀ k, k < 9 → M2 (q + 2) k = nI (w2 k).val) ∧ RP Z h w2 (E / 2 + E / 2) ∧ ∀ r, r ≠ q + 2 → r ≠ q + 3 → M2 r = M r := by
      by_cases e0 : E / 2 = 0
      · refine ⟨M1, w, ?_, g1, by rw [e0] at g2 ⊢; exact g2, g3⟩
        rw [if_pos e0, if_0]
      · obtain ⟨M2, w2, a1, a2, a3, a4⟩ := m_square (M := M1) l1 l2 l3 hp hp2 h1 h9 (by rw [g3 q (by omega) (by omega)]; exact m0) (by rw [g3 q (by omega) (by omega)]; exact m3) (fun k hk => by rw [g3 (q + 1) (by omega) (by omega)]; exact mc k hk) hl sh g1 g2
        refine ⟨M2, w2, ?_, a2, a3, fun r r1 r2 => (a4 r r1 r2).trans (g3 r r1 r2)⟩
        rw [if_neg e0, if_1, a1, Option.bind_some]
    obtain ⟨M2, w2, s1, s2, s3, s4⟩ := sq
    rw [s1]
    unfold m_X3_raise_j31
    have hb : nI P >>> (nI (30 - t) &&& 31) &&& 1 = nI (E % 2) := by
      have : nI P >>> (nI (30 - t) &&& 31) = nI E := by rw [← hE]; exact pk_shrN (by omega) _ (30 - t) (sh31 _ (by omega))
      rw [this]
      exact odd_nI (by rw [← hE]; exact Nat.lt_of_le_of_lt (Nat.div_le_self _ _) hP)
    rw [hb, ← jI_nat (T := 30) (t := t) (by omega), dec1, hnx, hE]
    by_cases eo : E % 2 = 1
    · obtain ⟨M3, w3, a1, a2, a3, a4⟩ := m_shift (M := M2) l1 l2 hp hp2 h1 h9 (by rw [s4 q (by omega) (by omega)]; exact m0) (by rw [s4 q (by omega) (by omega)]; exact m3) (fun k hk => by rw [s4 (q + 1) (by omega) (by omega)]; exact mc k hk) hl sh s2 s3
      rw [eo, if_pos n_11, a1, Option.bind_some]
      refine ⟨_, by omega, ⟨M3, w3, ?_, a2, ?_, fun r r1 r2 => (a4 r r1).trans (s4 r r1 r2)⟩, rfl⟩
      · rw [if_neg (show ¬ E = 0 by omega)]
      · rw [show E = E / 2 + E / 2 + 1 by omega]; exact a3
    · rw [show E % 2 = 0 by omega, if_neg (show ¬ nI 0 = (1 : Int32) by decide)]
      refine ⟨_, by omega, ⟨M2, w2, ?_, s2, ?_, s4⟩, rfl⟩
      · by_cases e0 : E / 2 = 0
        · rw [if_pos e0, if_pos (show E = 0 by omega)]
        · rw [if_neg e0, if_neg (show ¬ E = 0 by omega)]
      · rw [show E = E / 2 + E / 2 by omega]; exact s3
def hgh {p : Nat} [NeZero p] (w : Nat → Fin p) : Nat → Nat
  | 0 => 0
  | n + 1 => if w n = 0 then hgh w n else n + 1
theorem hgh_le {p : Nat} [NeZero p] (w : Nat → Fin p) : ∀ n, hgh w n ≤ n
  | 0 => Nat.le_refl _
  | n + 1 => by
    have := hgh_le w n
    simp only [hgh]
    split <;> omega
theorem hgh_z {p : Nat} [NeZero p] {w : Nat → Fin p} : ∀ {n k : Nat}, hgh w n ≤ k → k < n → w k = 0
  | 0, k, _, h => absurd h (by omega)
  | n + 1, k, h1, h2 => by
    simp only [hgh] at h1
    by_cases e : w n = 0
    · rw [if_pos e] at h1
      by_cases q : k = n
      · rw [q]; exact e
      · exact hgh_z h1 (by omega)
    · rw [if_neg e] at h1; omega
theorem hgh_nz {p : Nat} [NeZero p] {w : Nat → Fin p} : ∀ {n k : Nat}, hgh w n = k + 1 → w k ≠ 0
  | 0, k, h => by simp only [hgh] at h; omega
  | n + 1, k, h => by
    simp only [hgh] at h
    by_cases e : w n = 0
    · rw [if_pos e] at h; exact hgh_nz h
    · rw [if_neg e] at h
      have : k = n := by omega
      rw [this]; exact e
theorem hgh_cong {p : Nat} [NeZero p] {w w' : Nat → Fin p} : ∀ {n : Nat}, (∀ k, k < n → w k = w' k) → hgh w n = hgh w' n
  | 0, _ => rfl
  | n + 1, h => by
    simp only [hgh]
    rw [h n (by omega), hgh_cong (fun k hk => h k (by omega))]
theorem hgh_down {p : Nat} [NeZero p] {w : Nat → Fin p} (n : Nat) : ∀ m : Nat, (∀ k, n ≤ k → k < n + m → w k = 0) → hgh w (n + m) = hgh w n
  | 0, _ => rfl
  | m + 1, h => by
    show (if w (n + m) = 0 then hgh w (n + m) else n + m + 1) = _
    rw [if_pos (h _ (by omega) (by omega)), hgh_down n m (fun k h1 h2 => h k h1 (by omega))]
theorem m_hgh {a L n p : Nat} [NeZero p] {w : Nat → Fin p} {M : smM} (la : smLn a = L) (hL : 1 ≤ L) (hL2 : L < 1000) (hn : n ≤ L) (hp2 : p ≤ 97) (hw : ∀ k, k < n → M a k = nI (w k).val) : m_X11_highestNotZero a (jI ((n : Int) - 1)) M = some (jI ((hgh w n : Int) - 1)) := by
  unfold m_X11_highestNotZero
  have e0 : (if nI (smLn a) - 1 < jI ((n : Int) - 1) then nI (smLn a) - 1 else jI ((n : Int) - 1)) = jI ((n : Int) - 1) := by
    rw [la, if_neg]
    rw [sub1 hL, jI_nI, jI_lt (by omega) (by omega) (by omega) (by omega)]
    omega
  rw [e0]
  refine lp_pst n (fun t x => x = jI ((n : Int) - 1 - t) ∧ ∀ k, n ≤ k + t → k < n → w k = 0) (fun e => e = some (jI ((hgh w n : Int) - 1))) ⟨by congr 1; omega, fun k h1 h2 => by omega⟩ (by omega) ?_
  rintro t x ht ⟨rfl, z⟩ rc
  unfold m_X11_highestNotZero_b9
  by_cases et : t = n
  · right
    subst et
    have : hgh w t = 0 := by
      have := hgh_down (w := w) 0 t (fun k _ h2 => z k (by omega) (by omega))
      rw [Nat.zero_add] at this
      exact this
    rw [this, if_pos (show jI ((t : Int) - 1 - t) < (0 : Int32) by rw [show (0 : Int32) = jI 0 from rfl, jI_lt (by omega) (by omega) (by omega) (by omega)]; omega)]
    rfl
  · have K : ∃ K, n = K + t + 1 := ⟨n - t - 1, by omega⟩
    obtain ⟨K, rfl⟩ := K
    have ej : jI (((K + t + 1 : Nat) : Int) - 1 - t) = nI K := by rw [jI_nI]; congr 1; omega
    rw [ej, if_lt0 (by omega), cl_nI (n := K) (by omega), la, if_ck2 (by omega) (by omega), hw K (by omega)]
    by_cases c : w K = 0
    · left
      rw [if_pos ((fin_z hp2 _).mpr c)]
      refine ⟨_, by omega, ⟨rfl, fun k h1 h2 => ?_⟩, ?_⟩
      · by_cases q : k = K
        · rw [q]; exact c
        · exact z k (by omega) h2
      · have e9 : nI K + (-1 : Int32) = jI (((K + t + 1 : Nat) : Int) - 1 - ((t + 1 : Nat) : Int)) := by
          rw [show (-1 : Int32) = jI (-1) from rfl, jI_nI, jI_add]; congr 1; omega
        rw [e9]
    · right
      rw [if_neg (fun q => c ((fin_z hp2 _).mp q))]
      have : hgh w (K + t + 1) = K + 1 := by
        have e2 := hgh_down (w := w) (K + 1) t (fun k h1 h2 => z k (by omega) (by omega))
        rw [show K + 1 + t = K + t + 1 by omega] at e2
        rw [e2]
        simp only [hgh, if_neg c]
      rw [this, jI_nI]
      congr 2
      omega
/-- what a polynomial in x (s = 0) or y (1) times a term makes -/
def NS {p : Nat} [NeZero p] (A B : Nat) (F G : Nat → Nat → Fin p) (s i j k d : Nat) : Fin p := if s = 0 then Nn A B F G (i + k) j d else Nn A B F G i (j + k) d
theorem mul_NS {p : Nat} [NeZero p] {A B : Nat} {F G : Nat → Nat → Fin p} {s i j : Nat} {c : Nat → Fin p} {n d : Nat} {v : Nat → Fin p} (hv : ∀ d, v d = su (fun k => c k * NS A B F G s i j k d) n) : (if s = 0 then mulX A B F G v d else mulY A B F G v d) = su (fun k => c k * NS A B F G s i j (k + 1) d) n := by
  have ev : v = fun d => su (fun k => c k * NS A B F G s i j k d) n := funext hv
  rw [ev]
  by_cases e : s = 0
  · rw [if_pos e]
    have e3 := mulZ_su A B (fun i j => Nn A B F G (i + 1) j d) c (fun k d => NS A B F G s i j k d) n
    refine e3.trans (su_cong (fun k _ => ?_))
    unfold NS
    simp only [if_pos e]
    exact congrArg (fun z => c k * z) (congrFun (mulX_N (f := F) (g := G) (A := A) (B := B) (i + k) j) d)
  · rw [if_neg e]
    have e3 := mulZ_su A B (fun i j => Nn A B F G i (j + 1) d) c (fun k d => NS A B F G s i j k d) n
    refine e3.trans (su_cong (fun k _ => ?_))
    unfold NS
    simp only [if_neg e]
    exact congrArg (fun z => c k * z) (congrFun (mulY_N (f := F) (g := G) (A := A) (B := B) i (j + k)) d)
theorem m_mulPoly {q p A B s a2 a3 a4 i j : Nat} [NeZero p] {F G : Nat → Nat → Fin p} {w : Nat → Fin p} {M : smM} (hq : smT 1 q 6) (hp : 2 ≤ p) (hp2 : p ≤ 97) (hA : 1 ≤ A) (hA3 : A ≤ 3) (hB3 : B ≤ 3) (hQ : QF M q p A B F G) (hs : s < 2) (l2 : smLn a2 = 9) (l3 : smLn a3 = 9) (l4 : smLn a4 = 9) (d3 : a3 < q ∨ q + 39 ≤ a3) (d4 : a4 < q ∨ q + 39 ≤ a4) (n24 : a2 ≠ a4) (n34 : a3 ≠ a4) (n2 : a2 < q ∨ q + 39 ≤ a2) (hw : ∀ k, k < 9 → M a2 k = nI (w k).val) (hv : ∀ d, d < 9 → M a3 d = nI (Nn A B F G i j d).val) : ∃ M', m_X6_multiplyByPolynomial q (nI s) a2 a3 a4 M = some M' ∧ (∀ d, d < 9 → M' a4 d = nI (su (fun k => w k * NS A B F G s i j k d) 9).val) ∧ ∀ r, r ≠ a4 → r ≠ q + 38 → M' r = M r := by
  unfold m_X6_multiplyByPolynomial
  rw [m_clear l4 (by omega), Option.bind_some, l2, show nI 9 - (1 : Int32) = jI (((9 : Nat) : Int) - 1) from rfl, m_hgh l2 (by omega) (by omega) (Nat.le_refl 9) hp2 (fun k hk => by rw [fil_o n24]; exact hw k hk), Option.bind_some]
  have hg := hgh_le w 9
  generalize hT : hgh w 9 = T at hg
  have ns0 : ∀ d, NS A B F G s i j 0 d = Nn A B F G i j d := fun d => by unfold NS; split <;> rfl
  refine lp_pst T (fun t x => ∃ (M' : smM), x = (jI ((T : Int) - 1 - t), M') ∧ (∀ d, d < 9 → M' a4 d = nI (su (fun k => w (T - t + k) * NS A B F G s i j k d) t).val) ∧ ∀ r, r ≠ a4 → r ≠ q + 38 → M' r = M r) (fun x => ∃ (M' : smM), x = some M' ∧ (∀ d, d < 9 → M' a4 d = nI (su (fun k => w k * NS A B F G s i j k d) 9).val) ∧ ∀ r, r ≠ a4 → r ≠ q + 38 → M' r = M r) ⟨fil M a4 (fun _ => 0) 9, by rw [show (T : Int) - 1 - (0 : Nat) = (T : Int) - 1 by omega], fun d hd => by rw [fil_in hd]; exact z_fin, fun r r1 _ => fil_o r1⟩ (by omega) ?_
  rintro t x ht ⟨M1, rfl, g1, g2⟩ rc
  unfold m_X6_multiplyByPolynomial_b15
  simp only []
  by_cases et : t = T
  · right
    subst et
    rw [if_pos (show jI ((t : Int) - 1 - t) < (0 : Int32) by rw [show (0 : Int32) = jI 0 from rfl, jI_lt (by omega) (by omega) (by omega) (by omega)]; omega)]
    refine ⟨M1, rfl, fun d hd => ?_, g2⟩
    rw [g1 d hd]
    congr 2
    have e1 := su_split (fun k => w k * NS A B F G s i j k d) t (9 - t)
    rw [show t + (9 - t) = 9 by omega] at e1
    rw [e1, su_zero' (f := fun i_1 => w (t + i_1) * NS A B F G s i j (t + i_1) d) (fun k hk => by rw [hgh_z (w := w) (n := 9) (k := t + k) (by omega) (by omega), r_0m]), r_a0]
    exact su_cong (fun k _ => by rw [show t - t + k = k by omega])
  · left
    have K : ∃ K, T = K + t + 1 := ⟨T - t - 1, by omega⟩
    obtain ⟨K, rfl⟩ := K
    have ej : jI (((K + t + 1 : Nat) : Int) - 1 - t) = nI K := by rw [jI_nI]; congr 1; omega
    have q1 : QF M1 q p A B F G := hQ.fr hA3 hB3 (fun r _ _ => g2 r (by omega) (by omega))
    obtain ⟨M2, b1, b2, b3⟩ := m_multiply (a := a4) (b := a4) (s := s) (v := fun d => su (fun k => w (K + t + 1 - t + k) * NS A B F G s i j k d) t) hq hp hp2 hA hA3 hB3 q1 hs l4 l4 d4 d4 g1
    have wl := (w K).isLt
    have mw : M2 a2 K = nI (w K).val := by rw [b2 a2 n24 (by omega), g2 a2 n24 (by omega)]; exact hw K (by omega)
    have mp : M2 q 0 = nI p := by rw [b2 q (by omega) (by omega)]; exact q1.1
    rw [ej, if_lt0 (by omega), b1, Option.bind_some, cl_nI (n := K) (by omega), l2, if_ck2 (by omega) (by omega), mw, mp, m_bringMultiple l4 l3 (by omega) n34 hp hp2 (show (w K).val ≤ 97 by omega) b3 (fun k hk => by rw [b2 a3 n34 (by omega), g2 a3 n34 (by omega)]; exact hv k hk), Option.bind_some]
    have e9 : nI K + (-1 : Int32) = jI (((K + t + 1 : Nat) : Int) - 1 - ((t + 1 : Nat) : Int)) := by
      rw [show (-1 : Int32) = jI (-1) from rfl, jI_nI, jI_add]; congr 1; omega
    rw [e9]
    refine ⟨_, by omega, ⟨_, rfl, fun d hd => ?_, fun r r1 r2 => ?_⟩, rfl⟩
    · rw [fil_in hd, fz_self, mul_NS (c := fun k => w (K + t + 1 - t + k)) (fun d => rfl), su_first, ns0]
      congr 2
      have e5 : su (fun k => w (K + t + 1 - t + k) * NS A B F G s i j (k + 1) d) t = su (fun k => w (K + t + 1 - (t + 1) + (k + 1)) * NS A B F G s i j (k + 1) d) t := su_cong (fun k _ => by rw [show K + t + 1 - t + k = K + t + 1 - (t + 1) + (k + 1) by omega])
      rw [e5, show K + t + 1 - (t + 1) + 0 = K by omega]
      grind
    · rw [fil_o r1, b2 r r1 r2, g2 r r1 r2]
theorem su_9 {p : Nat} [NeZero p] {h : Nat} (h9 : h ≤ 9) {w : Nat → Fin p} (hz : ∀ k, h ≤ k → w k = 0) (f : Nat → Fin p) : su (fun k => w k * f k) 9 = su (fun k => w k * f k) h := by
  have e1 := su_split (fun k => w k * f k) h (9 - h)
  rw [show h + (9 - h) = 9 by omega] at e1
  rw [e1, su_zero' (f := fun i => w (h + i) * f (h + i)) (fun k _ => by rw [hz _ (by omega), r_0m]), r_a0]
theorem LPZ.pos {p : Nat} [NeZero p] (hp : 2 ≤ p) {A B : Nat} (hA : 1 ≤ A) (hB : 1 ≤ B) {F G : Nat → Nat → Fin p} {w h : Nat} {c : Nat → Fin p} (a : LPZ (ZL A B F G w) h c) : 1 ≤ h := by
  rcases Nat.eq_zero_or_pos h with q | q
  · exfalso
    subst q
    have := a.2.1 0
    simp only [su] at this
    rw [a.1, r_0a, r_1m] at this
    unfold ZL at this
    by_cases e : w = 0
    · simp only [if_pos e] at this
      rw [Nn_u (by omega) (by omega), if_pos (by omega)] at this
      exact fp_01 hp this.symm
    · simp only [if_neg e] at this
      rw [Nn_u (by omega) (by omega), if_pos (by omega)] at this
      exact fp_01 hp this.symm
  · exact q
theorem g_347 : smLn 440 = 9 ∧ smLn 504 = 9 ∧ smLn 505 = 9 ∧ smLn 506 = 9 := by decide +kernel
theorem m_vector {M : smM} {p A B u v i j : Nat} [NeZero p] {F G : Nat → Nat → Fin p} (hpar : PARAM p A B u v) (h : CU M A B u v F G) (hi : i < 2147483648) (hj : j < 2147483648) : ∃ M', m_X2_vectorOfTerm 93 (nI i) (nI j) 504 M = some M' ∧ CU M' A B u v F G ∧ (∀ d, d < 9 → M' 504 d = nI (Nn A B F G i j d).val) ∧ ∀ r, (r < 93 ∨ 440 < r) → r ≠ 504 → M' r = M r := by
  obtain ⟨hpr, ⟨hA, hA3⟩, ⟨hB, hB3⟩, -⟩ := hpar
  obtain ⟨hp, hp2⟩ := Pr_rng p hpr
  obtain ⟨n0, c0, x1, x2, x3, x4, x5⟩ := (h.lst (w := 0) (by omega)).lp
  obtain ⟨k1, k2, k3, -⟩ := g_ln 0 (by omega)
  obtain ⟨n1, c1, y1, y2, y3, y4, y5⟩ := (h.lst (w := 1) (by omega)).lp
  obtain ⟨k4, k5, k6, -⟩ := g_ln 1 (by omega)
  obtain ⟨z1, z2, z3, z4⟩ := g_347
  have p0 := x5.pos hp hA hB
  have p1 := y5.pos hp hA hB
  obtain ⟨Ma, w0, a1, a2, a3, a4⟩ := m_raise (q := 134) (M := M) (P := i) k1 k2 k3 hp hp2 p0 x1 x2 x3 x4 x5 (shz_L A B F G 0) hi
  obtain ⟨Mb, w1, b1, b2, b3, b4⟩ := m_raise (q := 140) (M := Ma) (P := j) k4 k5 k6 hp hp2 p1 y1 (by rw [a4 140 (by omega) (by omega)]; exact y2) (by rw [a4 140 (by omega) (by omega)]; exact y3) (fun k hk => by rw [a4 (140 + 1) (by omega) (by omega)]; exact y4 k hk) y5 (shz_L A B F G 1) hj
  have e1 : m_X6_toOne 94 504 Mb = _ := m_toOne (p := p) hp z2 Mb
  generalize hc : fil Mb 504 (fun k => nI (if k = 0 then (1 : Fin p) else 0).val) 9 = Mc at e1
  have co : ∀ r, r ≠ 504 → Mc r = Mb r := fun r hr => by rw [← hc, fil_o hr]
  have c5 : ∀ d, d < 9 → Mc 504 d = nI (Nn A B F G 0 0 d).val := fun d hd => by
    rw [← hc, fil_in hd, Nn_u (by omega) (by omega)]
    by_cases q : d = 0
    · rw [if_pos q, if_pos (by omega)]
    · rw [if_neg q, if_neg (by omega)]
  have hQ : QF Mc 94 p A B F G := h.2.1.fr hA3 hB3 (fun r _ _ => by rw [co r (by omega), b4 r (by omega) (by omega), a4 r (by omega) (by omega)])
  obtain ⟨Md, d1, d2, d3⟩ := m_mulPoly (q := 94) (s := 0) (a2 := 136) (a3 := 504) (a4 := 440) (i := 0) (j := 0) (w := w0) (M := Mc) tq_94 hp hp2 hA hA3 hB3 hQ (by omega) k2 z2 z1 (by omega) (by omega) (by omega) (by omega) (by omega) (fun k hk => by rw [co 136 (by omega), b4 136 (by omega) (by omega)]; exact a2 k hk) c5
  have v1 : ∀ d, su (fun k => w0 k * NS A B F G 0 0 0 k d) 9 = Nn A B F G i 0 d := fun d => by
    rw [su_9 x1 a3.2 (fun k => NS A B F G 0 0 0 k d)]
    have := a3.1 d
    unfold ZL at this
    simp only [if_true] at this
    rw [this]
    refine su_cong (fun k _ => ?_)
    unfold NS
    rw [if_pos rfl, Nat.zero_add]
  obtain ⟨Me, f1, f2, f3⟩ := m_mulPoly (q := 94) (s := 1) (a2 := 142) (a3 := 440) (a4 := 504) (i := i) (j := 0) (w := w1) (M := Md) tq_94 hp hp2 hA hA3 hB3 (hQ.fr hA3 hB3 (fun r _ _ => d3 r (by omega) (by omega))) (by omega) k5 z1 z2 (by omega) (by omega) (by omega) (by omega) (by omega) (fun k hk => by rw [d3 142 (by omega) (by omega), co 142 (by omega)]; exact b2 k hk) (fun d hd => by rw [d2 d hd, v1])
  have v2 : ∀ d, su (fun k => w1 k * NS A B F G 1 i 0 k d) 9 = Nn A B F G i j d := fun d => by
    rw [su_9 y1 b3.2 (fun k => NS A B F G 1 i 0 k d)]
    have e0 : ∀ d, Nn A B F G 0 j d = su (fun k => w1 k * Nn A B F G 0 k d) n1 := fun d => by
      have := b3.1 d
      unfold ZL at this
      simp only [if_neg (show ¬ (1 : Nat) = 0 by decide)] at this
      exact this
    have := Nn_shX (px := fun _ => 0) (py := fun k => k) i e0 d
    rw [Nat.zero_add] at this
    rw [this]
    refine su_cong (fun k _ => ?_)
    unfold NS
    rw [if_neg (by decide), Nat.zero_add]
  have fr : ∀ r, r ≠ 132 → r ≠ 136 → r ≠ 137 → r ≠ 142 → r ≠ 143 → r ≠ 440 → r ≠ 504 → Me r = M r := fun r h1 h2 h3 h4 h5 h6 h7 => by
    rw [f3 r h7 h1, d3 r h6 h1, co r h7, b4 r h4 h5, a4 r h2 h3]
  refine ⟨Me, ?_, h.fr hA3 hB3 (fun r h1 h2 h3 h4 h5 => fr r h3 (by omega) (by omega) (by omega) (by omega) (by omega) (by omega)), fun d hd => by rw [f2 d hd, v2], fun r h1 h2 => fr r (by omega) (by omega) (by omega) (by omega) (by omega) (by omega) h2⟩
  unfold m_X2_vectorOfTerm
  rw [c0_cl, c1_cl, show smLn (93 + 40) = 2 from g_le.2.2.2.1, ck_0 (by omega), show m_X3_raise (93 + 40 + 1 + 6 * 0) (nI i) M = some Ma from a1, Option.bind_some, ck_1 (by omega), show m_X3_raise (93 + 40 + 1 + 6 * 1) (nI j) Ma = some Mb from b1, Option.bind_some, show m_X6_toOne (93 + 1) 504 Mb = some Mc from e1, Option.bind_some, ck_0 (by omega), show m_X6_multiplyByPolynomial (93 + 1) 0 (93 + 40 + 1 + 6 * 0 + 2) 504 (93 + 347) Mc = some Md from d1, Option.bind_some, ck_1 (by omega), show m_X6_multiplyByPolynomial (93 + 1) 1 (93 + 40 + 1 + 6 * 1 + 2) (93 + 347) 504 Md = some Me from f1, Option.bind_some]
