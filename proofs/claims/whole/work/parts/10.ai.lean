/-! the span -/
def SP (M : smM) (s p n : Nat) [NeZero p] (ρ σ : Nat → Nat → Fin p) (π : Nat → Nat) : Prop := n ≤ 9 ∧ M s 0 = nI n ∧ M s 1 = nI p ∧ ∀ r, r < n → (∀ d, d < 9 → M (s + 1 + 1 + r) d = nI (ρ r d).val) ∧ (∀ d, d < 9 → M (s + 11 + 1 + r) d = nI (σ r d).val) ∧ M (s + 21) r = nI (π r) ∧ π r < 9
theorem fz_pm {p : Nat} [NeZero p] (a : Fin p) : fz p ((p - a.val : Nat) : Int) = - a := by
  have h := a.isLt
  have e : ((p - a.val : Nat) : Int) = (p : Int) + (-(a.val : Int)) := by omega
  rw [e, ← fz_negv]
  apply Fin.ext
  have h1 := fz_val (p := p) ((p : Int) + (-(a.val : Int)))
  have h2 := fz_val (p := p) (-(a.val : Int))
  rw [Int.add_emod_left] at h1
  omega
set_option maxHeartbeats 1000000 in
theorem m_express {s p n a b : Nat} [NeZero p] {ρ σ : Nat → Nat → Fin p} {π : Nat → Nat} {M : smM} (hs : smT 1 s 9) (hp : 2 ≤ p) (hp2 : p ≤ 97) (h : SP M s p n ρ σ π) (la : smLn a = 9) (lb : smLn b = 9) (hab : a ≠ b) (ha : a < s ∨ s + 22 ≤ a) (hb : b < s ∨ s + 22 ≤ b) {v : Nat → Fin p} (hv : ∀ k, k < 9 → M a k = nI (v k).val) :
    m_X9_express s a b M = some (fil (fil M a (fun k => nI (red ρ π n v k).val) 9) b (fun k => nI (shr ρ σ π n v k).val) 9) := by
  obtain ⟨hn, h0, h1, hr⟩ := h
  let S : Nat → smM := fun t => fil (fil M a (fun k => nI (red ρ π t v k).val) 9) b (fun k => nI (shr ρ σ π t v k).val) 9
  have So : ∀ t r, r ≠ a → r ≠ b → S t r = M r := fun t r h1 h2 => by show fil (fil M _ _ _) _ _ _ r = _; rw [fil_o h2, fil_o h1]
  have Sa : ∀ t d, d < 9 → S t a d = nI (red ρ π t v d).val := fun t d hd => by show fil (fil M _ _ _) _ _ _ a d = _; rw [fil_o hab, fil_in hd]
  have Sb : ∀ t d, d < 9 → S t b d = nI (shr ρ σ π t v d).val := fun t d hd => fil_in hd
  unfold m_X9_express
  rw [m_clear lb (by decide), Option.bind_some]
  refine lp_cnt n (fun t => (nI t, S t)) ?_ (by omega) (fun t ht rc => ?_) (fun rc => ?_)
  · have e : fil M b (fun _ => 0) 9 = S 0 := by
      funext r k
      by_cases e1 : r = b
      · subst e1
        by_cases hk : k < 9
        · rw [fil_in hk, Sb 0 k hk]; rfl
        · rw [fil_out (by omega)]
          show _ = fil (fil M _ _ _) _ _ _ r k
          rw [fil_out (by omega), fil_o (Ne.symm hab)]
      · rw [fil_o e1]
        by_cases e2 : r = a
        · subst e2
          by_cases hk : k < 9
          · rw [Sa 0 k hk, hv k hk]; rfl
          · show _ = fil (fil M _ _ _) _ _ _ r k
            rw [fil_o e1, fil_out (by omega)]
        · rw [So 0 r e2 e1]
    rw [e]; rfl
  · obtain ⟨r1, r2, r3, r4⟩ := hr t ht
    unfold m_X9_express_b6
    simp only []
    rw [So t s (by omega) (by omega), h0, if_neg (by rw [nI_le_iff (by omega) (by omega)]; omega), l9_4 hs, if_ck (by omega) (by omega), cl_nI (by omega), So t (s + 21) (by omega) (by omega), r3, la, if_ck (by omega) (by omega), cl_nI (by omega), Sa t (π t) r4]
    by_cases hz : red ρ π t v (π t) = 0
    · rw [if_pos ((fin_z hp2 _).mpr hz), nI_add_1]
      congr 2
      show fil (fil M _ _ _) _ _ _ = fil (fil M _ _ _) _ _ _
      rw [fil_congr (g := fun k => nI (red ρ π t v k).val) (h := fun k => nI (red ρ π (t + 1) v k).val) (fun k _ => by
        congr 2
        simp only [red]
        rw [hz]; grind)]
      refine fil_congr (fun k _ => ?_)
      congr 2
      simp only [shr]
      rw [hz]; grind
    · rw [if_neg (fun e => hz ((fin_z hp2 _).mp e)), l9_2 hs, l9_3 hs, if_ck2 (by omega) (by omega), h1]
      have hlt := (red ρ π t v (π t)).isLt
      rw [nI_subN (by omega), m_bringMultiple (v := fun d => red ρ π t v d) (w := fun d => ρ t d) la (l9_2r hs (by omega)) (by decide) (by omega) hp hp2 (by omega) (Sa t) (fun k hk => by rw [So t _ (by omega) (by omega)]; exact r1 k hk), Option.bind_some, if_ck2 (by omega) (by omega)]
      have fs : ∀ g, fil (S t) a g 9 s 1 = nI p := fun g => by rw [fil_o (by omega), So t s (by omega) (by omega)]; exact h1
      rw [fs, m_bringMultiple (v := fun d => shr ρ σ π t v d) (w := fun d => σ t d) lb (l9_3r hs (by omega)) (by decide) (by omega) hp hp2 (by omega) (fun k hk => by rw [fil_o (Ne.symm hab)]; exact Sb t k hk) (fun k hk => by rw [fil_o (by omega), So t _ (by omega) (by omega)]; exact r2 k hk), Option.bind_some, nI_add_1]
      congr 2
      funext r k
      by_cases e1 : r = b
      · subst e1
        by_cases hk : k < 9
        · rw [fil_in hk, Sb (t + 1) k hk, fz_self]; rfl
        · rw [fil_out (by omega), fil_o (Ne.symm hab)]
          show fil (fil M _ _ _) _ _ _ r k = fil (fil M _ _ _) _ _ _ r k
          rw [fil_out (by omega), fil_out (by omega), fil_o (Ne.symm hab), fil_o (Ne.symm hab)]
      · rw [fil_o e1]
        by_cases e2 : r = a
        · subst e2
          by_cases hk : k < 9
          · rw [fil_in hk, Sa (t + 1) k hk, fz_pm]
            congr 2
            simp only [red]
            grind
          · rw [fil_out (by omega)]
            show fil (fil M _ _ _) _ _ _ r k = fil (fil M _ _ _) _ _ _ r k
            rw [fil_o e1, fil_o e1, fil_out (by omega), fil_out (by omega)]
        · rw [fil_o e2, So t r e2 e1, So (t + 1) r e2 e1]
  · unfold m_X9_express_b6
    simp only []
    rw [So n s (by omega) (by omega), h0, if_pos (Int32.le_refl _)]
set_option maxHeartbeats 1000000 in
theorem m_absorb {s p n a b q : Nat} [NeZero p] {ρ σ : Nat → Nat → Fin p} {π : Nat → Nat} {M : smM} (hs : smT 1 s 9) (hpr : p ∈ PrL) (h : SP M s p n ρ σ π) (h9 : n < 9) (la : smLn a = 9) (lb : smLn b = 9) (ha : a < s ∨ s + 22 ≤ a) (hb : b < s ∨ s + 22 ≤ b) {v w : Nat → Fin p} (hv : ∀ k, k < 9 → M a k = nI (v k).val) (hw : ∀ k, k < 9 → M b k = nI (w k).val) (hq : q < 9) (hq0 : ∀ k, k < q → v k = 0) (hq1 : v q ≠ 0) :
    ∃ (M1 : smM) (sc : Fin p), m_X9_absorb s a b M = some M1 ∧ sc * v q = 1 ∧ SP M1 s p (n + 1) (up1 ρ n (fun d => sc * v d)) (up1 σ n (fun k => if k = n then sc else - (sc * w k))) (up1 π n q) ∧ ∀ r, (r < s ∨ s + 22 ≤ r) → M1 r = M r := by
  have hp := (Pr_rng p hpr).1
  have hp2 := (Pr_rng p hpr).2
  obtain ⟨hn, h0, h1, hr⟩ := h
  have hvq : 0 < (v q).val := by
    rcases Nat.eq_zero_or_pos (v q).val with e | e
    · exact absurd (Fin.ext e) hq1
    · exact e
  obtain ⟨k, k1, k2, k3, k4⟩ := inv_ex hpr (v q).isLt hvq
  have hsc : fz p (k : Int) * v q = 1 := inv_fz hp k3
  let M1a := fil M (s + 1 + 1 + n) (fun d => nI (fz p (k : Int) * v d).val) 9
  let M2a := fil M1a (s + 11 + 1 + n) (fun d => nI (- (fz p (k : Int) * w d)).val) 9
  let M3a := smS M2a (s + 11 + 1 + n) n (nI k)
  let M4a := smS M3a (s + 21) n (nI q)
  let M5a := smS M4a s 0 (nI (n + 1))
  have lr := l9_2r hs h9
  have ls := l9_3r hs h9
  have ko : (fz p (k : Int)).val = k := by
    have := fz_val (p := p) (k : Int)
    rw [Int.emod_eq_of_lt (by omega) (by omega)] at this
    omega
  have ex : m_X9_absorb s a b M = some M5a := by
    unfold m_X9_absorb
    rw [m_first_some la (by decide) hq (fun j hj => by rw [hv j (by omega), hq0 j hj]; rfl) (by rw [hv q hq]; exact fun e => hq1 ((fin_z hp2 _).mp e)), Option.bind_some, if_neg (nI_pos (by omega)), h0, if_pos (by rw [show (9 : Int32) = nI 9 from rfl, nI_lt_iff (by omega) (by omega)]; exact h9), la, if_ck (by omega) (by omega), cl_nI (by omega), hv q hq, h1, m_inverse hp hp2 (v q).isLt k1 k2 k3 k4, Option.bind_some, l9_2 hs, l9_3 hs, l9_4 hs, if_ck (by omega) (by omega), cl_nI (by omega), m_clear lr (by decide), Option.bind_some]
    have f0 : ∀ g, fil M (s + 1 + 1 + n) g 9 s = M s := fun g => fil_o (by omega)
    rw [f0, h0, h1, if_ck (by omega) (by omega), cl_nI (by omega), m_bringMultiple (v := fun _ => 0) (w := v) lr la (by decide) (by omega) hp hp2 (by omega) (fun d hd => by rw [fil_in hd]; rfl) (fun d hd => by rw [fil_o (by omega)]; exact hv d hd), Option.bind_some, fil_fil]
    have e1 : fil M (s + 1 + 1 + n) (fun d => nI ((0 : Fin p) + fz p (k : Int) * v d).val) 9 = M1a := fil_congr (fun d _ => by congr 2; grind)
    rw [e1]
    have g0 : M1a s = M s := f0 _
    rw [g0, h0, if_ck (by omega) (by omega), cl_nI (by omega), m_clear ls (by decide), Option.bind_some]
    have f1 : ∀ g, fil M1a (s + 11 + 1 + n) g 9 s = M s := fun g => by rw [fil_o (by omega)]; exact g0
    rw [f1, h0, h1, if_ck (by omega) (by omega), cl_nI (by omega), nI_subN (by omega), m_bringMultiple (v := fun _ => 0) (w := w) ls lb (by decide) (by omega) hp hp2 (by omega) (fun d hd => by rw [fil_in hd]; rfl) (fun d hd => by rw [fil_o (by omega)]; show fil M _ _ _ b d = _; rw [fil_o (by omega)]; exact hw d hd), Option.bind_some, fil_fil]
    have e2 : fil M1a (s + 11 + 1 + n) (fun d => nI ((0 : Fin p) + fz p ((p - k : Nat) : Int) * w d).val) 9 = M2a := fil_congr (fun d _ => by
      have e3 := fz_pm (p := p) (fz p (k : Int))
      rw [ko] at e3
      rw [e3]
      congr 2
      grind)
    rw [e2]
    have g1 : M2a s = M s := f1 _
    rw [g1, h0, if_ck (by omega) (by omega), cl_nI (by omega), ls, if_ck2 (by omega) (by omega)]
    simp only [smB]
    have g2 : smS M2a (s + 11 + 1 + n) n (nI k) s = M s := by rw [smS_o (by omega)]; exact g1
    rw [g2, h0, if_ck (by omega) (by omega), cl_nI (by omega)]
    have g3 : smS (smS M2a (s + 11 + 1 + n) n (nI k)) (s + 21) n (nI q) s = M s := by rw [smS_o (by omega)]; exact g2
    rw [g3, h0, nI_add_1]
  refine ⟨M5a, fz p (k : Int), ex, hsc, ⟨by omega, smS_at, ?_, fun r hr2 => ?_⟩, fun r hr2 => ?_⟩
  · show smS _ _ _ _ s 1 = _
    rw [smS_ne (by decide)]
    show smS (smS (fil (fil M _ _ _) _ _ _) _ _ _) _ _ _ s 1 = _
    rw [smS_o (by omega), smS_o (by omega), fil_o (by omega), fil_o (by omega)]; exact h1
  · show (∀ d, d < 9 → smS (smS (smS (fil (fil M _ _ _) _ _ _) _ _ _) _ _ _) _ _ _ _ d = _) ∧ (∀ d, d < 9 → smS (smS (smS (fil (fil M _ _ _) _ _ _) _ _ _) _ _ _) _ _ _ _ d = _) ∧ smS (smS (smS (fil (fil M _ _ _) _ _ _) _ _ _) _ _ _) _ _ _ _ r = _ ∧ _
    by_cases e : r = n
    · subst e
      rw [up1_s, up1_s, up1_s]
      refine ⟨fun d hd => ?_, fun d hd => ?_, ?_, hq⟩
      · rw [smS_o (by omega), smS_o (by omega), smS_o (by omega), fil_o (by omega), fil_in hd]
      · rw [smS_o (by omega), smS_o (by omega)]
        by_cases ed : d = r
        · subst ed
          rw [smS_at, if_pos rfl, ko]
        · rw [smS_ne ed, fil_in hd, if_neg ed]
      · rw [smS_o (by omega), smS_at]
    · rw [up1_n e, up1_n e, up1_n e]
      obtain ⟨r1, r2, r3, r4⟩ := hr r (by omega)
      refine ⟨fun d hd => ?_, fun d hd => ?_, ?_, r4⟩
      · rw [smS_o (by omega), smS_o (by omega), smS_o (by omega), fil_o (by omega), fil_o (by omega)]; exact r1 d hd
      · rw [smS_o (by omega), smS_o (by omega), smS_o (by omega), fil_o (by omega), fil_o (by omega)]; exact r2 d hd
      · rw [smS_o (by omega), smS_ne e, smS_o (by omega), fil_o (by omega), fil_o (by omega)]; exact r3
  · show smS (smS (smS (fil (fil M _ _ _) _ _ _) _ _ _) _ _ _) _ _ _ r = _
    rw [smS_o (by omega), smS_o (by omega), smS_o (by omega), fil_o (by omega), fil_o (by omega)]
theorem m_toOne {q a p : Nat} [NeZero p] (hp : 2 ≤ p) (la : smLn a = 9) (M : smM) : m_X6_toOne q a M = some (fil M a (fun k => nI (if k = 0 then (1 : Fin p) else 0).val) 9) := by
  unfold m_X6_toOne
  rw [m_clear la (by decide), Option.bind_some, la]
  have c : ¬ ((0 : Int32) < 0 ∨ 9 ≤ ((0 : Int32)).toNatClampNeg) := by decide
  rw [if_neg c]
  simp only [smB]
  congr 1
  funext r k
  have e0 : ((0 : Int32)).toNatClampNeg = 0 := by decide
  rw [e0]
  by_cases e : r = a
  · subst e
    by_cases ek : k = 0
    · subst ek
      rw [smS_at, fil_in (by decide), if_pos rfl]
      have : (1 : Fin p).val = 1 := by show 1 % p = 1; exact Nat.mod_eq_of_lt (by omega)
      rw [this]; rfl
    · rw [smS_ne ek]
      by_cases hk : k < 9
      · rw [fil_in hk, fil_in hk, if_neg ek]; rfl
      · rw [fil_out (by omega), fil_out (by omega)]
  · rw [smS_o e, fil_o e, fil_o e]
