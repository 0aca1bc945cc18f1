/-! bring, of the class -/
theorem brg_0 {p : Nat} {f : Nat → Nat → Nat} {i j : Nat} (h : f i j = 0) : brg p f 0 i j = f := by
  funext a b
  unfold brg
  by_cases d : a = i ∧ b = j
  · rw [if_pos d, h, d.1, d.2, h]
    exact Nat.zero_mod p
  · rw [if_neg d]
theorem m_bring {q n L p c0 i j : Nat} [NeZero p] {f : Nat → Nat → Nat} {c x y : Nat → Nat} {M : smM} (l1 : smLn (q + 1) = L) (l2 : smLn (q + 2) = L) (l3 : smLn (q + 3) = L) (hn : n < L) (hL : L < 1000) (hp : 2 ≤ p) (hp2 : p ≤ 97) (h : PO M q n c x y) (hR : REP f n c x y) (hP : PF p n c x y) (hc0 : c0 < p) (hi : i < 2147483648) (hj : j < 2147483648) : ∃ (M' : smM) (n' : Nat) (c' x' y' : Nat → Nat), m_X5_bring q (nI c0) (nI i) (nI j) (nI p) M = some M' ∧ PO M' q n' c' x' y' ∧ REP (brg p f c0 i j) n' c' x' y' ∧ PF p n' c' x' y' ∧ n' ≤ n + 1 ∧ ∀ r, (r < q ∨ q + 4 ≤ r) → M' r = M r := by
  unfold m_X5_bring
  refine lp_post (ρ := smM) n (fun k w => w = nI k ∧ ∀ l, l < k → i < x l ∨ x l = i ∧ j < y l) (fun e => ∃ (M' : smM) (n' : Nat) (c' x' y' : Nat → Nat), e = some M' ∧ PO M' q n' c' x' y' ∧ REP (brg p f c0 i j) n' c' x' y' ∧ PF p n' c' x' y' ∧ n' ≤ n + 1 ∧ ∀ r, (r < q ∨ q + 4 ≤ r) → M' r = M r) ⟨rfl, fun l hl => absurd hl (Nat.not_lt_zero l)⟩ (by omega) ?_
  rintro k w hk ⟨rfl, hI⟩
  -- where no term stands at the place
  have miss : (∀ l, k ≤ l → l < n → x l < i ∨ x l = i ∧ y l < j) → ∃ e, (∃ (M' : smM) (n' : Nat) (c' x' y' : Nat → Nat), e = some M' ∧ PO M' q n' c' x' y' ∧ REP (brg p f c0 i j) n' c' x' y' ∧ PF p n' c' x' y' ∧ n' ≤ n + 1 ∧ ∀ r, (r < q ∨ q + 4 ≤ r) → M' r = M r) ∧ ∀ rc, m_X5_bring_j110 q (nI c0) (nI i) (nI j) (nI k) M rc = e := fun hhi => by
    by_cases z : c0 = 0
    · have hf0 : f i j = 0 := Classical.byContradiction fun w => by
        obtain ⟨m, m1, m2, m3⟩ := hR.2.2 i j w
        by_cases d : m < k
        · have := hI m d; omega
        · have := hhi m (by omega) m1; omega
      subst z
      refine ⟨some M, ⟨M, n, c, x, y, rfl, h, by rw [brg_0 hf0]; exact hR, hP, by omega, fun _ _ => rfl⟩, fun rc => ?_⟩
      unfold m_X5_bring_j110
      rw [if_pos n_00]
    · obtain ⟨M', e1, e2, e3⟩ := m_insert (c0 := c0) (i := i) (j := j) l1 l2 l3 hn hL hk h
      have hR' := hR.ins hk hc0 hI hhi
      refine ⟨some M', ⟨M', n + 1, _, _, _, rfl, e2, hR', ⟨fun l hl => ?_, hR'.1⟩, Nat.le_refl _, e3⟩, fun rc => ?_⟩
      · rcases Nat.lt_trichotomy l k with d | d | d
        · rw [ins_l d, ins_l d, ins_l d]; exact hP.1 l (by omega)
        · subst d
          rw [ins_e, ins_e, ins_e]; exact ⟨by omega, hc0, hi, hj⟩
        · rw [ins_g d, ins_g d, ins_g d]; exact hP.1 (l - 1) (by omega)
      · unfold m_X5_bring_j110
        rw [if_neg (z_nI (by omega) (by omega)), l1, h.1, if_neg (fun w => by rw [nI_le_iff (by omega) (by omega)] at w; omega), e1, Option.bind_some]
  by_cases e : k = n
  · right
    obtain ⟨E, h1, h2⟩ := miss (fun l h1 h2 => by omega)
    refine ⟨E, h1, fun rc => ?_⟩
    unfold m_X5_bring_b3 m_X5_bring_j51
    rw [h.1, e, if_pos ((nI_le_iff (by omega) (by omega)).mpr (Nat.le_refl n)), if_pos ((nI_le_iff (by omega) (by omega)).mpr (Nat.le_refl n)), ← e]
    exact h2 rc
  · obtain ⟨p1, p2, p3⟩ := h.2 k (by omega)
    obtain ⟨b1, b2, b3, b4⟩ := hP.1 k (by omega)
    have hnle : ¬ nI n ≤ nI k := fun w => by rw [nI_le_iff (by omega) (by omega)] at w; omega
    have ck : ∀ {ρ : Type} (T : Option ρ), (if nI k < 0 ∨ L ≤ k then none else T) = T := fun T => if_ck2 (by omega) (by omega) T
    by_cases gx : i < x k ∨ x k = i ∧ j < y k
    · left
      refine ⟨nI (k + 1), by omega, ⟨rfl, fun l hl => ?_⟩, fun rc => ?_⟩
      · by_cases el : l = k
        · rw [el]; exact gx
        · exact hI l (by omega)
      · unfold m_X5_bring_b3
        rw [h.1, if_neg hnle, cl_nI (n := k) (by omega), l2, l3, ck, p2, p3]
        by_cases d : i < x k
        · rw [if_pos ((nI_lt_iff (by omega) (by omega)).mpr d), nI_add_1]
        · have d2 : x k = i ∧ j < y k := gx.resolve_left d
          rw [if_neg (fun w => d ((nI_lt_iff (by omega) (by omega)).mp w)), ck, if_pos (by rw [d2.1]), ck, if_neg (fun w => by rw [nI_le_iff (by omega) (by omega)] at w; omega), nI_add_1]
    · right
      have eb : ∀ rc, m_X5_bring_b3 q (nI c0) (nI i) (nI j) (nI p) M rc (nI k) = m_X5_bring_j51 q (nI c0) (nI i) (nI j) (nI p) (nI k) M rc := fun rc => by
        unfold m_X5_bring_b3
        rw [h.1, if_neg hnle, cl_nI (n := k) (by omega), l2, l3, ck, p2, p3, if_neg (fun w => gx (Or.inl ((nI_lt_iff (by omega) (by omega)).mp w))), ck]
        by_cases d : x k = i
        · rw [if_pos (by rw [d]), ck, if_pos ((nI_le_iff (by omega) (by omega)).mpr (by omega))]
        · rw [if_neg (fun w => d ((nI_inj (by omega) (by omega)).mp w))]
      by_cases mt : x k = i ∧ y k = j
      · obtain ⟨rfl, rfl⟩ := mt
        have hlt : (c k + c0) % p < p := Nat.mod_lt _ (by omega)
        have hPO : ∀ l, l < n → smS M (q + 1) k (nI ((c k + c0) % p)) (q + 1) l = nI (up1 c k ((c k + c0) % p) l) := fun l hl => by
          by_cases el : l = k
          · rw [el, smS_at, up1_s]
          · rw [smS_ne el, up1_n el]; exact (h.2 l hl).1
        have hcu : ∀ l, l < n → up1 c k ((c k + c0) % p) l < p := fun l hl => by
          by_cases el : l = k
          · rw [el, up1_s]; exact hlt
          · rw [up1_n el]; exact (hP.1 l hl).2.1
        obtain ⟨M', e1, e2, e3, e4⟩ := m_takeZeros (M := smS M (q + 1) k (nI ((c k + c0) % p))) l1 l2 l3 (Nat.le_of_lt hn) hL (by rw [smS_o (by omega)]; exact h.1)
        have es : sel (smS M (q + 1) k (nI ((c k + c0) % p)) (q + 1)) n = sel (fun l => nI (up1 c k ((c k + c0) % p) l)) n := sel_cong hPO
        rw [es] at e2 e3
        obtain ⟨r1, r2⟩ := (hR.upd (p := p) (c0 := c0) (show k < n by omega)).nz (fun l hl => by have := hcu l hl; omega)
        have hok := sel_ok (C := fun l => nI (up1 c k ((c k + c0) % p) l)) n
        refine ⟨some M', ⟨M', _, _, _, _, rfl, ⟨e2, fun l hl => ?_⟩, r1, ⟨fun l hl => ?_, r1.1⟩, by omega, fun r hr => by rw [e4 r hr, smS_o (by omega)]⟩, fun rc => ?_⟩
        · obtain ⟨f1, f2, f3⟩ := e3 l hl
          have hf := (hok.2.1 l hl).1
          rw [hPO _ hf] at f1
          rw [smS_o (by omega)] at f2 f3
          exact ⟨f1, f2.trans (h.2 _ hf).2.1, f3.trans (h.2 _ hf).2.2⟩
        · have hf := (hok.2.1 l hl).1
          exact ⟨Nat.pos_of_ne_zero (r2 l hl), hcu _ hf, (hP.1 _ hf).2.2.1, (hP.1 _ hf).2.2.2⟩
        · rw [eb]
          unfold m_X5_bring_j51
          rw [h.1, if_neg hnle, cl_nI (n := k) (by omega), l1, l2, l3, ck, p2, if_pos rfl, ck, p3, if_pos rfl, ck, p1, nI_ad, m_left hp hp2, Option.bind_some, ck, smB_e, rd_nI (by omega), e1, Option.bind_some]
      · obtain ⟨E, h1, h2⟩ := miss (fun l h1 h2 => by
          have hkk : x k < i ∨ x k = i ∧ y k < j := by omega
          by_cases el : l = k
          · rw [el]; exact hkk
          · have := hP.2 k l (by omega) h2; omega)
        refine ⟨E, h1, fun rc => ?_⟩
        rw [eb]
        unfold m_X5_bring_j51
        rw [h.1, if_neg hnle, cl_nI (n := k) (by omega), l2, l3, ck, p2, p3]
        by_cases d : x k = i
        · rw [if_pos (by rw [d]), ck, if_neg (fun w => mt ⟨d, (nI_inj (by omega) (by omega)).mp w⟩)]
          exact h2 rc
        · rw [if_neg (fun w => d ((nI_inj (by omega) (by omega)).mp w))]
          exact h2 rc
