/-! a term brought to the class's polynomial -/
def ins {α : Type} (c : Nat → α) (a : Nat) (w : α) : Nat → α := fun l => if l < a then c l else if l = a then w else c (l - 1)
theorem ins_l {α : Type} {c : Nat → α} {a l : Nat} {w : α} (h : l < a) : ins c a w l = c l := if_pos h
theorem ins_e {α : Type} {c : Nat → α} {a : Nat} {w : α} : ins c a w a = w := by unfold ins; rw [if_neg (by omega), if_pos rfl]
theorem ins_g {α : Type} {c : Nat → α} {a l : Nat} {w : α} (h : a < l) : ins c a w l = c (l - 1) := by unfold ins; rw [if_neg (by omega), if_neg (by omega)]
theorem m_insert {q n a L c0 i j : Nat} {c x y : Nat → Nat} {M : smM} (l1 : smLn (q + 1) = L) (l2 : smLn (q + 2) = L) (l3 : smLn (q + 3) = L) (hn : n < L) (hL : L < 1000) (ha : a ≤ n) (h : PO M q n c x y) : ∃ M', m_X5_insert q (nI a) (nI c0) (nI i) (nI j) M = some M' ∧ PO M' q (n + 1) (ins c a c0) (ins x a i) (ins y a j) ∧ ∀ r, (r < q ∨ q + 4 ≤ r) → M' r = M r := by
  unfold m_X5_insert
  rw [h.1]
  refine lp_post (ρ := smM) (n - a) (fun t w => ∃ M' : smM, w = (nI (n - t), M') ∧ (∀ r, (r ≤ q ∨ q + 4 ≤ r) → M' r = M r) ∧ (∀ l, l < n → l ≤ n - t → M' (q + 1) l = nI (c l) ∧ M' (q + 2) l = nI (x l) ∧ M' (q + 3) l = nI (y l)) ∧ ∀ l, n - t < l → l ≤ n → M' (q + 1) l = nI (c (l - 1)) ∧ M' (q + 2) l = nI (x (l - 1)) ∧ M' (q + 3) l = nI (y (l - 1))) (fun e => ∃ M', e = some M' ∧ PO M' q (n + 1) (ins c a c0) (ins x a i) (ins y a j) ∧ ∀ r, (r < q ∨ q + 4 ≤ r) → M' r = M r) ⟨M, rfl, fun _ _ => rfl, fun l hl _ => h.2 l hl, fun l h1 h2 => by omega⟩ (by omega) ?_
  rintro t w ht ⟨M', rfl, g1, g2, g3⟩
  by_cases e : t = n - a
  · right
    have ea : n - t = a := by omega
    rw [ea] at g2 g3
    have ck : ∀ {ρ : Type} (T : Option ρ), (if nI a < 0 ∨ L ≤ a then none else T) = T := fun T => if_ck2 (by omega) (by omega) T
    refine ⟨_, ⟨smS (smS (smS (smS M' (q + 1) a (nI c0)) (q + 2) a (nI i)) (q + 3) a (nI j)) q 0 (nI (n + 1)), rfl, ⟨smS_at, fun l hl => ?_⟩, fun r hr => ?_⟩, fun rc => ?_⟩
    · rw [smS_o (show q + 1 ≠ q by omega), smS_o (show q + 1 ≠ q + 3 by omega), smS_o (show q + 1 ≠ q + 2 by omega), smS_o (show q + 2 ≠ q by omega), smS_o (show q + 2 ≠ q + 3 by omega), smS_o (show q + 3 ≠ q by omega)]
      rcases Nat.lt_trichotomy l a with d | d | d
      · rw [ins_l d, ins_l d, ins_l d, smS_ne (by omega), smS_ne (by omega), smS_ne (by omega), smS_o (show q + 2 ≠ q + 1 by omega), smS_o (show q + 3 ≠ q + 2 by omega), smS_o (show q + 3 ≠ q + 1 by omega)]
        exact g2 l (by omega) (by omega)
      · subst d
        rw [ins_e, ins_e, ins_e]
        exact ⟨smS_at, smS_at, smS_at⟩
      · rw [ins_g d, ins_g d, ins_g d, smS_ne (by omega), smS_ne (by omega), smS_ne (by omega), smS_o (show q + 2 ≠ q + 1 by omega), smS_o (show q + 3 ≠ q + 2 by omega), smS_o (show q + 3 ≠ q + 1 by omega)]
        exact g3 l (by omega) (by omega)
    · rw [smS_o (by omega), smS_o (by omega), smS_o (by omega), smS_o (by omega)]; exact g1 r (by omega)
    · show m_X5_insert_b6 q (nI a) (nI c0) (nI i) (nI j) rc (nI (n - t)) M' = _
      unfold m_X5_insert_b6
      rw [ea, if_pos ((nI_le_iff (by omega) (by omega)).mpr (Nat.le_refl a)), cl_nI (n := a) (by omega), l1, l2, l3, ck, smB_e, ck, smB_e, ck, smB_e, smB_e, smS_o (show q ≠ q + 3 by omega), smS_o (show q ≠ q + 2 by omega), smS_o (show q ≠ q + 1 by omega), g1 q (by omega), h.1, nI_add_1]
  · left
    have e1 : nI (n - t) - 1 = nI (n - t - 1) := by
      rw [show (1 : Int32) = nI 1 from rfl, jI_nI, jI_nI, jI_nI, jI_sub]; congr 1; omega
    have e2 : nI (n - t) + (-1) = nI (n - (t + 1)) := by
      rw [show (-1 : Int32) = jI (-1) from rfl, jI_nI, jI_nI, jI_add]; congr 1; omega
    have ck : ∀ {ρ : Type} (T : Option ρ), (if nI (n - t) < 0 ∨ L ≤ n - t then none else T) = T := fun T => if_ck2 (by omega) (by omega) T
    have ck' : ∀ {ρ : Type} (T : Option ρ), (if nI (n - t - 1) < 0 ∨ L ≤ n - t - 1 then none else T) = T := fun T => if_ck2 (by omega) (by omega) T
    obtain ⟨d1, d2, d3⟩ := g2 (n - t - 1) (by omega) (by omega)
    refine ⟨(nI (n - (t + 1)), smS (smS (smS M' (q + 1) (n - t) (nI (c (n - t - 1)))) (q + 2) (n - t) (nI (x (n - t - 1)))) (q + 3) (n - t) (nI (y (n - t - 1)))), by omega, ⟨_, rfl, fun r hr => ?_, fun l hl hl2 => ?_, fun l hl hl2 => ?_⟩, fun rc => ?_⟩
    · rw [smS_o (by omega), smS_o (by omega), smS_o (by omega)]; exact g1 r hr
    · obtain ⟨f1, f2, f3⟩ := g2 l hl (by omega)
      exact ⟨by rw [smS_o (by omega), smS_o (by omega), smS_ne (by omega)]; exact f1, by rw [smS_o (by omega), smS_ne (by omega), smS_o (by omega)]; exact f2, by rw [smS_ne (by omega), smS_o (by omega), smS_o (by omega)]; exact f3⟩
    · by_cases el : l = n - t
      · subst el
        exact ⟨by rw [smS_o (by omega), smS_o (by omega), smS_at], by rw [smS_o (by omega), smS_at], smS_at⟩
      · obtain ⟨f1, f2, f3⟩ := g3 l (by omega) hl2
        exact ⟨by rw [smS_o (by omega), smS_o (by omega), smS_ne el]; exact f1, by rw [smS_o (by omega), smS_ne el, smS_o (by omega)]; exact f2, by rw [smS_ne el, smS_o (by omega), smS_o (by omega)]; exact f3⟩
    · show m_X5_insert_b6 q (nI a) (nI c0) (nI i) (nI j) rc (nI (n - t)) M' = _
      unfold m_X5_insert_b6
      rw [if_neg (fun q => by rw [nI_le_iff (by omega) (by omega)] at q; omega), e1, e2, cl_nI (n := n - t) (by omega), cl_nI (n := n - t - 1) (by omega), l1, l2, l3, ck', ck, smB_e, ck', ck, smB_e, ck', ck, smB_e, smS_o (show q + 2 ≠ q + 1 by omega), smS_o (show q + 3 ≠ q + 2 by omega), smS_o (show q + 3 ≠ q + 1 by omega), d1, d2, d3]
/-- a new term keeps the list falling, and what it stands for -/
theorem REP.ins {p : Nat} {f : Nat → Nat → Nat} {n a c0 i j : Nat} {c x y : Nat → Nat} (h : REP f n c x y) (ha : a ≤ n) (hc : c0 < p) (hlo : ∀ l, l < a → i < x l ∨ x l = i ∧ j < y l) (hhi : ∀ l, a ≤ l → l < n → x l < i ∨ x l = i ∧ y l < j) : REP (brg p f c0 i j) (n + 1) (ins c a c0) (ins x a i) (ins y a j) := by
  have hf0 : f i j = 0 := Classical.byContradiction fun q => by
    obtain ⟨k, k1, k2, k3⟩ := h.2.2 i j q
    by_cases d : k < a
    · have := hlo k d; omega
    · have := hhi k (by omega) k1; omega
  refine ⟨fun k l hkl hl => ?_, fun k hk => ?_, fun u v hu => ?_⟩
  · rcases Nat.lt_trichotomy l a with d | d | d
    · rw [ins_l d, ins_l d, ins_l (show k < a by omega), ins_l (show k < a by omega)]; exact h.1 k l hkl (by omega)
    · subst d
      rw [ins_e, ins_e, ins_l hkl, ins_l hkl]
      have := hlo k hkl; omega
    · rw [ins_g d, ins_g d]
      rcases Nat.lt_trichotomy k a with d2 | d2 | d2
      · rw [ins_l d2, ins_l d2]; exact h.1 k (l - 1) (by omega) (by omega)
      · subst d2
        rw [ins_e, ins_e]
        have := hhi (l - 1) (by omega) (by omega); omega
      · rw [ins_g d2, ins_g d2]; exact h.1 (k - 1) (l - 1) (by omega) (by omega)
  · unfold brg
    rcases Nat.lt_trichotomy k a with d | d | d
    · rw [ins_l d, ins_l d, ins_l d, if_neg (fun q => by have := hlo k d; omega)]; exact h.2.1 k (by omega)
    · subst d
      rw [ins_e, ins_e, ins_e, if_pos ⟨rfl, rfl⟩, hf0, Nat.zero_add, Nat.mod_eq_of_lt hc]
    · rw [ins_g d, ins_g d, ins_g d, if_neg (fun q => by have := hhi (k - 1) (by omega) (by omega); omega)]; exact h.2.1 (k - 1) (by omega)
  · unfold brg at hu
    by_cases d : u = i ∧ v = j
    · exact ⟨a, by omega, by rw [ins_e]; exact d.1.symm, by rw [ins_e]; exact d.2.symm⟩
    · rw [if_neg d] at hu
      obtain ⟨k, k1, k2, k3⟩ := h.2.2 u v hu
      by_cases d2 : k < a
      · exact ⟨k, by omega, by rw [ins_l d2]; exact k2, by rw [ins_l d2]; exact k3⟩
      · exact ⟨k + 1, by omega, by rw [ins_g (by omega)]; exact k2, by rw [ins_g (by omega)]; exact k3⟩
/-- a term that stands already -/
theorem REP.upd {p : Nat} {f : Nat → Nat → Nat} {n a c0 : Nat} {c x y : Nat → Nat} (h : REP f n c x y) (ha : a < n) : REP (brg p f c0 (x a) (y a)) n (up1 c a ((c a + c0) % p)) x y := by
  refine ⟨h.1, fun k hk => ?_, fun u v hu => ?_⟩
  · unfold brg
    by_cases e : k = a
    · subst e
      rw [up1_s, if_pos ⟨rfl, rfl⟩, h.2.1 k hk]
    · rw [up1_n e, if_neg (fun q => by
        rcases Nat.lt_trichotomy k a with d | d | d
        · have := h.1 k a d ha; omega
        · omega
        · have := h.1 a k d hk; omega)]
      exact h.2.1 k hk
  · unfold brg at hu
    by_cases d : u = x a ∧ v = y a
    · exact ⟨a, ha, d.1.symm, d.2.symm⟩
    · rw [if_neg d] at hu
      exact h.2.2 u v hu
