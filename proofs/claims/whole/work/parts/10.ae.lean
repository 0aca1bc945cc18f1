/-- the setting of the class: field, powers, weights, coefficients -/
def SET (M : smM) (t p A B u v : Nat) [NeZero p] (F G : Nat → Nat → Fin p) : Prop := M t 0 = nI p ∧ M t 1 = nI A ∧ M t 2 = nI B ∧ M t 3 = nI u ∧ M t 4 = nI v ∧ (∀ k l, k < 3 → l < 3 → M (t + 1) (3 * l + k) = nI (F k l).val) ∧ ∀ k l, k < 3 → l < 3 → M (t + 2) (3 * l + k) = nI (G k l).val
set_option maxHeartbeats 1000000 in
theorem m_fillForm {q t p A B i j : Nat} [NeZero p] {F G : Nat → Nat → Fin p} {M : smM} (hq : smT 1 q 6) (ht : smT 1 t 7) (htq : t + 3 ≤ q) (hp : 2 ≤ p) (hp2 : p ≤ 97) (hA : 1 ≤ A) (hB : 1 ≤ B) (hA3 : A ≤ 3) (hB3 : B ≤ 3) (h0 : M q 0 = nI p) (h1 : M q 1 = nI A) (h2 : M q 2 = nI B) (t1 : M t 1 = nI A) (t2 : M t 2 = nI B) (tF : ∀ k l, k < 3 → l < 3 → M (t + 1) (3 * l + k) = nI (F k l).val) (tG : ∀ k l, k < 3 → l < 3 → M (t + 2) (3 * l + k) = nI (G k l).val) (hij : i + j < A + B) (hlow : ∀ a b, a + b < i + j → ∀ d, d < 9 → M (q + 1 + 1 + (6 * b + a)) d = nI (Nn A B F G a b d).val) :
    m_X6_fillForm q t (nI i) (nI j) M = some (fil M (q + 1 + 1 + (6 * j + i)) (fun d => nI (Nn A B F G i j d).val) 9) := by
  unfold m_X6_fillForm
  rw [m_formAt hq (by omega) (by omega)]
  rw [Option.bind_some]
  have lf := l6_3r hq (show 6 * j + i < 36 by omega)
  rw [m_clear lf (by decide)]
  rw [Option.bind_some]
  have hSo : ∀ r, r ≠ q + 1 + 1 + (6 * j + i) → fil M (q + 1 + 1 + (6 * j + i)) (fun _ => 0) 9 r = M r := fun r hr => fil_o hr
  rw [hSo q (by omega), h1, h2]
  by_cases hiA : i < A
  · rw [if_pos (by rw [nI_lt_iff (by omega) (by omega)]; exact hiA)]
    by_cases hjB : j < B
    · have hlt : A * j + i < 9 := by
        have : A * j ≤ 3 * 2 := Nat.mul_le_mul hA3 (by omega)
        omega
      rw [if_pos (by rw [nI_lt_iff (by omega) (by omega)]; exact hjB), nI_mulN, nI_add, lf, if_ck hlt (by omega), cl_nI (by omega)]
      show some _ = some _
      congr 1
      funext a k
      by_cases ea : a = q + 1 + 1 + (6 * j + i)
      · subst ea
        by_cases ek : k = A * j + i
        · subst ek
          rw [smS_at, fil_in hlt, Nn_u hiA hjB, if_pos rfl]
          have : ((1 : Fin p)).val = 1 := by show 1 % p = 1; exact Nat.mod_eq_of_lt (by omega)
          rw [this]; rfl
        · rw [smS_ne ek]
          by_cases hk : k < 9
          · rw [fil_in hk, fil_in hk, Nn_u hiA hjB, if_neg ek]; rfl
          · rw [fil_out (by omega), fil_out (by omega)]
      · rw [smS_o ea, fil_o ea, fil_o ea]
    · rw [if_neg (by rw [nI_lt_iff (by omega) (by omega)]; exact hjB), nI_subN (by omega)]
      rw [show (1 : Int32) = nI 1 from rfl, m_bringTail (t := t) (cr := t + 2) (P := B) (c := G) (Nx := fun k l => Nn A B F G (i + k) (j - B + l)) hq hp hp2 hB3 (by rw [hSo q (by omega)]; exact h0) (by decide) rfl (by show (fil M _ _ 9) t 2 = _; rw [hSo t (by omega)]; exact t2) (l7_6 ht) (fun k l hkl => by rw [hSo (t + 2) (by omega)]; exact tG k l (by omega) (by omega)) (by omega) (fun k l hkl => ⟨by omega, by omega, by omega, fun d hd => by rw [hSo _ (by omega)]; exact hlow _ _ (by omega) d hd⟩) (by omega) (fun d hd => fil_in hd)]
      show some _ = some _
      rw [fil_fil]
      congr 1
      refine fil_congr (fun d _ => ?_)
      rw [Nn_G0 hiA (by omega) d]
  · rw [if_neg (by rw [nI_lt_iff (by omega) (by omega)]; exact hiA), nI_subN (by omega)]
    have hbt := m_bringTail (M := fil M (q + 1 + 1 + (6 * j + i)) (fun _ => 0) 9) (t := t) (cr := t + 1) (P := A) (s := 0) (i := i - A) (j := j) (f := 6 * j + i) (c := F) (Nx := fun k l => Nn A B F G (i - A + k) (j + l)) hq hp hp2 hA3 (by rw [hSo q (by omega)]; exact h0) (by decide) rfl (by show (fil M _ _ 9) t 1 = _; rw [hSo t (by omega)]; exact t1) (l7_5 ht) (fun k l hkl => by rw [hSo (t + 1) (by omega)]; exact tF k l (by omega) (by omega)) (by omega) (fun k l hkl => ⟨by omega, by omega, by omega, fun d hd => by rw [hSo _ (by omega)]; exact hlow _ _ (by omega) d hd⟩) (by omega) (fun d hd => fil_in hd)
    rw [nI_0] at hbt
    rw [hbt]
    show some _ = some _
    rw [fil_fil]
    congr 1
    refine fil_congr (fun d _ => ?_)
    rw [Nn_F (by omega) d]
/-- the table filled up to degree d, in it up to i -/
def qfil {p : Nat} [NeZero p] (M : smM) (q : Nat) (Nx : Nat → Nat → Nat → Fin p) (d i : Nat) : smM := fun r => if q + 1 + 1 ≤ r ∧ r < q + 1 + 1 + 36 ∧ ((r - (q + 1 + 1)) % 6 + (r - (q + 1 + 1)) / 6 < d ∨ ((r - (q + 1 + 1)) % 6 + (r - (q + 1 + 1)) / 6 = d ∧ (r - (q + 1 + 1)) % 6 < i)) then (fun k => if k < 9 then nI (Nx ((r - (q + 1 + 1)) % 6) ((r - (q + 1 + 1)) / 6) k).val else M r k) else M r
theorem qfil_o {p : Nat} [NeZero p] {M : smM} {q d i r : Nat} {Nx : Nat → Nat → Nat → Fin p} (h : r < q + 1 + 1 ∨ q + 1 + 1 + 36 ≤ r) : qfil M q Nx d i r = M r := by
  unfold qfil
  rw [if_neg (by omega)]
theorem qfil_in {p : Nat} [NeZero p] {M : smM} {q d i a b k : Nat} {Nx : Nat → Nat → Nat → Fin p} (ha : a < 6) (hb : b < 6) (h : a + b < d ∨ (a + b = d ∧ a < i)) (hk : k < 9) : qfil M q Nx d i (q + 1 + 1 + (6 * b + a)) k = nI (Nx a b k).val := by
  unfold qfil
  have e : q + 1 + 1 + (6 * b + a) - (q + 1 + 1) = 6 * b + a := by omega
  have e1 : (6 * b + a) % 6 = a := by omega
  have e2 : (6 * b + a) / 6 = b := by omega
  rw [e, e1, e2, if_pos ⟨by omega, by omega, h⟩, if_pos hk]
theorem qfil_s {p : Nat} [NeZero p] {M : smM} {q d i : Nat} {Nx : Nat → Nat → Nat → Fin p} (hd : d < 6) (hi : i ≤ d) : fil (qfil M q Nx d i) (q + 1 + 1 + (6 * (d - i) + i)) (fun k => nI (Nx i (d - i) k).val) 9 = qfil M q Nx d (i + 1) := by
  funext r k
  by_cases hr : r = q + 1 + 1 + (6 * (d - i) + i)
  · subst hr
    by_cases hk : k < 9
    · rw [fil_in hk, qfil_in (by omega) (by omega) (by omega) hk]
    · rw [fil_out (by omega)]
      unfold qfil
      have e : q + 1 + 1 + (6 * (d - i) + i) - (q + 1 + 1) = 6 * (d - i) + i := by omega
      have e1 : (6 * (d - i) + i) % 6 = i := by omega
      have e2 : (6 * (d - i) + i) / 6 = d - i := by omega
      rw [e, e1, e2, if_neg (by omega), if_pos ⟨by omega, by omega, by omega⟩, if_neg hk]
  · rw [fil_o hr]
    unfold qfil
    by_cases c : q + 1 + 1 ≤ r ∧ r < q + 1 + 1 + 36 ∧ ((r - (q + 1 + 1)) % 6 + (r - (q + 1 + 1)) / 6 < d ∨ ((r - (q + 1 + 1)) % 6 + (r - (q + 1 + 1)) / 6 = d ∧ (r - (q + 1 + 1)) % 6 < i))
    · rw [if_pos c, if_pos (show q + 1 + 1 ≤ r ∧ r < q + 1 + 1 + 36 ∧ ((r - (q + 1 + 1)) % 6 + (r - (q + 1 + 1)) / 6 < d ∨ ((r - (q + 1 + 1)) % 6 + (r - (q + 1 + 1)) / 6 = d ∧ (r - (q + 1 + 1)) % 6 < i + 1)) by omega)]
    · rw [if_neg c, if_neg (show ¬ (q + 1 + 1 ≤ r ∧ r < q + 1 + 1 + 36 ∧ ((r - (q + 1 + 1)) % 6 + (r - (q + 1 + 1)) / 6 < d ∨ ((r - (q + 1 + 1)) % 6 + (r - (q + 1 + 1)) / 6 = d ∧ (r - (q + 1 + 1)) % 6 < i + 1))) by omega)]
theorem qfil_r {p : Nat} [NeZero p] {M : smM} {q d : Nat} {Nx : Nat → Nat → Nat → Fin p} : qfil M q Nx d (d + 1) = qfil M q Nx (d + 1) 0 := by
  funext r k
  unfold qfil
  by_cases c : q + 1 + 1 ≤ r ∧ r < q + 1 + 1 + 36 ∧ ((r - (q + 1 + 1)) % 6 + (r - (q + 1 + 1)) / 6 < d ∨ ((r - (q + 1 + 1)) % 6 + (r - (q + 1 + 1)) / 6 = d ∧ (r - (q + 1 + 1)) % 6 < d + 1))
  · rw [if_pos c, if_pos (show q + 1 + 1 ≤ r ∧ r < q + 1 + 1 + 36 ∧ ((r - (q + 1 + 1)) % 6 + (r - (q + 1 + 1)) / 6 < d + 1 ∨ ((r - (q + 1 + 1)) % 6 + (r - (q + 1 + 1)) / 6 = d + 1 ∧ (r - (q + 1 + 1)) % 6 < 0)) by omega)]
  · rw [if_neg c, if_neg (show ¬ (q + 1 + 1 ≤ r ∧ r < q + 1 + 1 + 36 ∧ ((r - (q + 1 + 1)) % 6 + (r - (q + 1 + 1)) / 6 < d + 1 ∨ ((r - (q + 1 + 1)) % 6 + (r - (q + 1 + 1)) / 6 = d + 1 ∧ (r - (q + 1 + 1)) % 6 < 0))) by omega)]
theorem qfil_0 {p : Nat} [NeZero p] {M : smM} {q : Nat} {Nx : Nat → Nat → Nat → Fin p} : qfil M q Nx 0 0 = M := by
  funext r k
  unfold qfil
  rw [if_neg (by omega)]
set_option maxHeartbeats 1000000 in
theorem m_build {q t p A B u v : Nat} [NeZero p] {F G : Nat → Nat → Fin p} {M : smM} (hq : smT 1 q 6) (ht : smT 1 t 7) (htq : t + 3 ≤ q) (hp : 2 ≤ p) (hp2 : p ≤ 97) (hA : 1 ≤ A) (hB : 1 ≤ B) (hA3 : A ≤ 3) (hB3 : B ≤ 3) (hS : SET M t p A B u v F G) :
    ∃ M1, m_X6_build q t M = some M1 ∧ QF M1 q p A B F G ∧ ∀ r, (r < q ∨ q + 38 ≤ r) → M1 r = M r := by
  obtain ⟨s0, s1, s2, s3, s4, sF, sG⟩ := hS
  let M0 : smM := smS (smS (smS M q 0 (nI p)) q 1 (nI A)) q 2 (nI B)
  have o0 : ∀ r, r ≠ q → M0 r = M r := fun r hr => by
    show smS (smS (smS M q 0 (nI p)) q 1 (nI A)) q 2 (nI B) r = _
    rw [smS_o hr, smS_o hr, smS_o hr]
  have q0 : M0 q 0 = nI p := by
    show smS (smS (smS M q 0 (nI p)) q 1 (nI A)) q 2 (nI B) q 0 = _
    rw [smS_ne (by decide), smS_ne (by decide), smS_at]
  have q1 : M0 q 1 = nI A := by
    show smS (smS (smS M q 0 (nI p)) q 1 (nI A)) q 2 (nI B) q 1 = _
    rw [smS_ne (by decide), smS_at]
  have q2 : M0 q 2 = nI B := by
    show smS (smS (smS M q 0 (nI p)) q 1 (nI A)) q 2 (nI B) q 2 = _
    rw [smS_at]
  let S : Nat → Nat → smM := fun d i => qfil M0 q (Nn A B F G) d i
  have So : ∀ d i r, (r < q + 1 + 1 ∨ q + 1 + 1 + 36 ≤ r) → S d i r = M0 r := fun d i r hr => qfil_o hr
  refine ⟨S (A + B) 0, ?_, ⟨by rw [So _ _ q (by omega)]; exact q0, by rw [So _ _ q (by omega)]; exact q1, by rw [So _ _ q (by omega)]; exact q2, fun i j hij d hd => qfil_in (by omega) (by omega) (Or.inl hij) hd⟩, fun r hr => ?_⟩
  · unfold m_X6_build
    simp only [smB]
    have et : t ≠ q := by omega
    rw [smS_o et, smS_o et, smS_o et, s0, s1, s2]
    refine lp_cnt (A + B) (fun d => (nI d, S d 0)) (by show _ = (nI 0, qfil M0 q (Nn A B F G) 0 0); rw [qfil_0]; rfl) (by omega) (fun d hd rc => ?_) (fun rc => ?_)
    · unfold m_X6_build_b26
      simp only []
      rw [So d 0 q (by omega), q1, q2, nI_add, if_neg (by rw [nI_le_iff (by omega) (by omega)]; omega)]
      refine lp_cnt (d + 1) (fun i => (nI i, S d i)) rfl (by omega) (fun i hi rc2 => ?_) (fun rc2 => ?_)
      · unfold m_X6_build_b41
        simp only []
        rw [if_neg (by rw [nI_lt_iff (by omega) (by omega)]; omega), nI_subN (by omega)]
        rw [m_fillForm (M := S d i) (A := A) (B := B) (F := F) (G := G) hq ht htq hp hp2 hA hB hA3 hB3 (by rw [So d i q (by omega)]; exact q0) (by rw [So d i q (by omega)]; exact q1) (by rw [So d i q (by omega)]; exact q2) (by rw [So d i t (by omega), o0 t (by omega)]; exact s1) (by rw [So d i t (by omega), o0 t (by omega)]; exact s2) (fun k l hk hl => by rw [So d i (t + 1) (by omega), o0 (t + 1) (by omega)]; exact sF k l hk hl) (fun k l hk hl => by rw [So d i (t + 2) (by omega), o0 (t + 2) (by omega)]; exact sG k l hk hl) (by omega) (fun a b hab k hk => qfil_in (by omega) (by omega) (by omega) hk)]
        show rc2 _ = rc2 _
        rw [nI_add_1]
        congr 2
        exact qfil_s (by omega) (by omega)
      · unfold m_X6_build_b41
        simp only []
        rw [if_pos (by rw [nI_lt_iff (by omega) (by omega)]; omega), nI_add_1]
        congr 2
        exact qfil_r
    · unfold m_X6_build_b26
      simp only []
      rw [So (A + B) 0 q (by omega), q1, q2, nI_add, if_pos (Int32.le_refl _)]
  · rw [So _ _ r (by omega), o0 r (by omega)]
