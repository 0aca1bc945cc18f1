/-! gives, of the reference -/
theorem sel_mono {C : Nat → Int32} : ∀ (d k : Nat), (sel C k).1 ≤ (sel C (k + d)).1
  | 0, k => Nat.le_refl _
  | d + 1, k => by
    have ih := sel_mono (C := C) d k
    show _ ≤ (sel C (k + d + 1)).1
    by_cases c : C (k + d) = 0
    · rw [sel_z c]; exact ih
    · rw [sel_s c]; show _ ≤ _ + 1; omega
theorem sel_mono' {C : Nat → Int32} {k n : Nat} (h : k ≤ n) : (sel C k).1 ≤ (sel C n).1 := by
  have := sel_mono (C := C) (n - k) k
  rw [show k + (n - k) = n by omega] at this
  exact this
theorem sel_lt {C : Nat → Int32} {k n : Nat} (h : k < n) (hk : ¬ C k = 0) : (sel C k).1 < (sel C n).1 := by
  have := sel_mono' (C := C) (show k + 1 ≤ n from h)
  rw [sel_s hk] at this
  exact this
def GIV (M M' : smM) (s m : Nat) (c x y : Nat → Nat) : Prop := M' 1003 s = nI m ∧ (∀ k, k < m → M' 1004 (8 * s + k) = nI (c k) ∧ M' 1005 (8 * s + k) = nI (x k) ∧ M' 1006 (8 * s + k) = nI (y k)) ∧ (∀ r, (r < 1003 ∨ 1006 < r) → M' r = M r) ∧ (∀ k, k ≠ s → M' 1003 k = M 1003 k) ∧ ∀ k, (k < 8 * s ∨ 8 * s + 8 ≤ k) → M' 1004 k = M 1004 k ∧ M' 1005 k = M 1005 k ∧ M' 1006 k = M 1006 k
theorem m12_givl {s n : Nat} {c x y : Nat → Nat} {M : smM} (hs : s < 4) (hn : n ≤ 40) (h : PO2 M n c x y) (h8 : (sel (fun k => nI (c k)) n).1 ≤ 8) (rc0 : Int32 × Int32 → Option (Int32 × smM)) : ∃ M', smLp (fun rc q => m_X12_gives_b48 1000 (nI s) rc0 rc q.1 q.2.1 q.2.2) smF ((0 : Int32), (0 : Int32), M) = some (nI (sel (fun k => nI (c k)) n).1, M') ∧ GIV M M' s (sel (fun k => nI (c k)) n).1 (fun j => c ((sel (fun k => nI (c k)) n).2 j)) (fun j => x ((sel (fun k => nI (c k)) n).2 j)) (fun j => y ((sel (fun k => nI (c k)) n).2 j)) := by
  generalize hC : (fun k => nI (c k)) = C at *
  have hC' : ∀ k, nI (c k) = C k := fun k => by rw [← hC]
  have ck4 : ∀ {ρ : Type} (T : Option ρ), (if nI s < 0 ∨ 4 ≤ s then none else T) = T := fun T => if_ck2 (by omega) (by omega) T
  have e8 : ∀ k, (8 : Int32) * nI s + nI k = nI (8 * s + k) := fun k => by rw [show (8 : Int32) = nI 8 from rfl, jI_nI, jI_nI, jI_nI, jI_nI, jI_mul, jI_add]; congr 1
  refine lp_post (ρ := Int32 × smM) n (fun k w => ∃ M' : smM, w = (nI (sel C k).1, nI k, M') ∧ (∀ r, (r ≤ 1003 ∨ 1006 < r) → M' r = M r) ∧ (∀ m, m < (sel C k).1 → M' 1004 (8 * s + m) = nI (c ((sel C k).2 m)) ∧ M' 1005 (8 * s + m) = nI (x ((sel C k).2 m)) ∧ M' 1006 (8 * s + m) = nI (y ((sel C k).2 m))) ∧ ∀ l, (l < 8 * s ∨ 8 * s + 8 ≤ l) → M' 1004 l = M 1004 l ∧ M' 1005 l = M 1005 l ∧ M' 1006 l = M 1006 l) (fun e => ∃ M', e = some (nI (sel C n).1, M') ∧ GIV M M' s (sel C n).1 (fun j => c ((sel C n).2 j)) (fun j => x ((sel C n).2 j)) (fun j => y ((sel C n).2 j))) ⟨M, rfl, fun _ _ => rfl, fun j hj => absurd hj (Nat.not_lt_zero j), fun _ _ => ⟨rfl, rfl, rfl⟩⟩ (by omega) ?_
  rintro k w hk ⟨M', rfl, g1, g2, g3⟩
  by_cases e : k = n
  · right
    subst e
    refine ⟨_, ⟨smS M' 1003 s (nI (sel C k).1), rfl, smS_at, fun m hm => ?_, fun r hr => ?_, fun m hm => ?_, fun l hl => ?_⟩, fun rc => ?_⟩
    · rw [smS_o (by omega), smS_o (by omega), smS_o (by omega)]; exact g2 m hm
    · rw [smS_o (by omega)]; exact g1 r (by omega)
    · rw [smS_ne hm, g1 1003 (by omega)]
    · rw [smS_o (by omega), smS_o (by omega), smS_o (by omega)]; exact g3 l hl
    · show m_X12_gives_b48 1000 (nI s) rc0 rc (nI (sel C k).1) (nI k) M' = _
      unfold m_X12_gives_b48
      rw [g1 1000 (by omega), h.1, if_pos ((nI_le_iff (by omega) (by omega)).mpr (Nat.le_refl k)), cl_nI (n := s) (by omega), show smLn (1000 + 3) = 4 from g_1003, ck4, smB_e]
  · left
    obtain ⟨p1, p2, p3⟩ := h.2 k (by omega)
    have hnle : ¬ nI n ≤ nI k := fun w => by rw [nI_le_iff (by omega) (by omega)] at w; omega
    have ck : ∀ {ρ : Type} (T : Option ρ), (if nI k < 0 ∨ 40 ≤ k then none else T) = T := fun T => if_ck2 (by omega) (by omega) T
    by_cases z : C k = 0
    · refine ⟨(nI (sel C (k + 1)).1, nI (k + 1), M'), by omega, ⟨M', rfl, g1, by rw [sel_z z]; exact g2, g3⟩, fun rc => ?_⟩
      show m_X12_gives_b48 1000 (nI s) rc0 rc (nI (sel C k).1) (nI k) M' = _
      unfold m_X12_gives_b48
      rw [g1 1000 (by omega), h.1, if_neg hnle, cl_nI (n := k) (by omega), g_1037, ck, g1 (1000 + 37) (by omega), show M (1000 + 37) k = C k from p1.trans (hC' k), if_pos z, nI_add_1, sel_z z]
    · have hlt := sel_lt (C := C) (show k < n by omega) z
      have cl : ∀ {ρ : Type} (T : Option ρ), (if nI (8 * s + (sel C k).1) < 0 ∨ 32 ≤ 8 * s + (sel C k).1 then none else T) = T := fun T => if_ck2 (by omega) (by omega) T
      refine ⟨(nI (sel C (k + 1)).1, nI (k + 1), smS (smS (smS M' 1004 (8 * s + (sel C k).1) (nI (c k))) 1005 (8 * s + (sel C k).1) (nI (x k))) 1006 (8 * s + (sel C k).1) (nI (y k))), by omega, ⟨_, rfl, fun r hr => ?_, fun m hm => ?_, fun l hl => ?_⟩, fun rc => ?_⟩
      · rw [smS_o (by omega), smS_o (by omega), smS_o (by omega)]; exact g1 r hr
      · rw [sel_s z] at hm ⊢
        have hm : m < (sel C k).1 + 1 := hm
        show smS _ _ _ _ _ _ = nI (c (up1 _ _ _ m)) ∧ smS _ _ _ _ _ _ = nI (x (up1 _ _ _ m)) ∧ smS _ _ _ _ _ _ = nI (y (up1 _ _ _ m))
        by_cases ej : m = (sel C k).1
        · rw [ej, up1_s]
          exact ⟨by rw [smS_o (by omega), smS_o (by omega), smS_at], by rw [smS_o (by omega), smS_at], smS_at⟩
        · rw [up1_n ej]
          obtain ⟨d1, d2, d3⟩ := g2 m (by omega)
          exact ⟨by rw [smS_o (by omega), smS_o (by omega), smS_ne (by omega)]; exact d1, by rw [smS_o (by omega), smS_ne (by omega), smS_o (by omega)]; exact d2, by rw [smS_ne (by omega), smS_o (by omega), smS_o (by omega)]; exact d3⟩
      · obtain ⟨d1, d2, d3⟩ := g3 l hl
        exact ⟨by rw [smS_o (by omega), smS_o (by omega), smS_ne (by omega)]; exact d1, by rw [smS_o (by omega), smS_ne (by omega), smS_o (by omega)]; exact d2, by rw [smS_ne (by omega), smS_o (by omega), smS_o (by omega)]; exact d3⟩
      · show m_X12_gives_b48 1000 (nI s) rc0 rc (nI (sel C k).1) (nI k) M' = _
        unfold m_X12_gives_b48
        rw [g1 1000 (by omega), h.1, if_neg hnle, e8, cl_nI (n := k) (by omega), cl_nI (n := 8 * s + (sel C k).1) (by omega), g_1037, g_1038, g_1039, show smLn (1000 + 4) = 32 from g_1004, show smLn (1000 + 5) = 32 from g_1005, show smLn (1000 + 6) = 32 from g_1006, ck, g1 (1000 + 37) (by omega), show M (1000 + 37) k = C k from p1.trans (hC' k), if_neg z, ck, cl, smB_e, ck, cl, smB_e, ck, cl, smB_e, smS_o (show 1000 + 38 ≠ 1000 + 4 by omega), g1 (1000 + 38) (by omega), show M (1000 + 38) k = _ from p2, smS_o (show 1000 + 39 ≠ 1000 + 5 by omega), smS_o (show 1000 + 39 ≠ 1000 + 4 by omega), g1 (1000 + 39) (by omega), show M (1000 + 39) k = _ from p3, nI_add_1, nI_add_1, sel_s z, ← hC' k]
theorem m12_gives {s n : Nat} {c x y : Nat → Nat} {M : smM} (hs : s < 4) (hn : n ≤ 40) (h : PO2 M n c x y) : ((sel (fun k => nI (c k)) n).1 ≤ 8 → ∃ M', m_X12_gives 1000 (nI s) M = some (nI (sel (fun k => nI (c k)) n).1, M') ∧ GIV M M' s (sel (fun k => nI (c k)) n).1 (fun j => c ((sel (fun k => nI (c k)) n).2 j)) (fun j => x ((sel (fun k => nI (c k)) n).2 j)) (fun j => y ((sel (fun k => nI (c k)) n).2 j))) ∧ (8 < (sel (fun k => nI (c k)) n).1 → m_X12_gives 1000 (nI s) M = some (-3, M)) := by
  have er : ∀ rc0 : Int32 × Int32 → Option (Int32 × smM), (fun (rc : Int32 × Int32 × smM → Option (Int32 × smM)) (q : Int32 × Int32 × smM) => m_X12_gives_b48 1000 (nI s) rc0 rc q.1 q.2.1 q.2.2) = (fun rc q => m_X12_gives_b48 1000 (nI s) (fun _ => none) rc q.1 q.2.1 q.2.2) := fun rc0 => by
    funext rc q
    unfold m_X12_gives_b48
    rfl
  have L : ∀ e, (∀ rc, m_X12_gives_b4 1000 (nI s) M rc (nI (sel (fun k => nI (c k)) n).1) (nI n) = e) → m_X12_gives 1000 (nI s) M = e := fun e he => by
    unfold m_X12_gives
    refine lp_cnt n (fun k => (nI (sel (fun k => nI (c k)) k).1, nI k)) rfl (by omega) (fun k hk rc => ?_) (fun rc => he rc)
    show m_X12_gives_b4 1000 (nI s) M rc (nI (sel (fun k => nI (c k)) k).1) (nI k) = rc (nI (sel (fun k => nI (c k)) (k + 1)).1, nI (k + 1))
    obtain ⟨p1, p2, p3⟩ := h.2 k hk
    unfold m_X12_gives_b4
    rw [h.1, if_neg (fun w => by rw [nI_le_iff (by omega) (by omega)] at w; omega), cl_nI (n := k) (by omega), g_1037, if_ck2 (by omega) (by omega), show M (1000 + 37) k = _ from p1]
    by_cases z : nI (c k) = 0
    · rw [if_pos z, sel_z (C := fun k => nI (c k)) z, nI_add_1, show nI (sel (fun k => nI (c k)) k).1 + 0 = nI ((sel (fun k => nI (c k)) k).1 + 0) from nI_ad _ 0]
      rfl
    · rw [if_neg z, sel_s (C := fun k => nI (c k)) z, nI_add_1, nI_add_1]
  have hle := (sel_ok (C := fun k => nI (c k)) n).1
  constructor
  · intro h8
    obtain ⟨M', e1, e2⟩ := m12_givl hs hn h h8 (fun _ => none)
    refine ⟨M', L _ (fun rc => ?_), e2⟩
    unfold m_X12_gives_b4
    rw [h.1, if_pos ((nI_le_iff (by omega) (by omega)).mpr (Nat.le_refl n)), if_pos (show nI (sel (fun k => nI (c k)) n).1 ≤ 8 from (nI_le_iff (b := 8) (by omega) (by omega)).mpr h8), er rc]
    exact e1
  · intro h8
    refine L _ (fun rc => ?_)
    unfold m_X12_gives_b4
    rw [h.1, if_pos ((nI_le_iff (by omega) (by omega)).mpr (Nat.le_refl n)), if_neg (fun w => by rw [show (8 : Int32) = nI 8 from rfl, nI_le_iff (by omega) (by omega)] at w; omega)]
