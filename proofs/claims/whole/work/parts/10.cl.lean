/-! a base of the class and of the reference -/
def FR3 (M M' : smM) : Prop := (∀ k, (k < 26 ∨ 38 < k) → M' 1000 k = M 1000 k) ∧ ∀ r, r ≠ 1000 → (r < 1015 ∨ 1031 < r) → M' r = M r
theorem m12_walks {p A B u v o uu vv : Nat} [NeZero p] {F G : Nat → Nat → Fin p} {M : smM} (hpr : p ∈ PrL) (hA : 1 ≤ A) (hB : 1 ≤ B) (hA3 : A ≤ 3) (hB3 : B ≤ 3) (ho : o ≤ 4) (hu : 1 ≤ u) (hu9 : u ≤ 9) (hv : 1 ≤ v) (hv9 : v ≤ 9) (hS : SET2 M p A B uu vv F G) : ∃ (M' : smM) (D : Nat) (sx sy : Nat → Nat) (nm : Nat) (mx my : Nat → Nat) (tl : Nat → Nat → Fin p), m_X12_walks 1000 (nI o) (nI u) (nI v) M = some M' ∧ BASE2 M' A B F G o u v D sx sy nm mx my tl ∧ FR3 M M' := by
  obtain ⟨hp, hp2⟩ := Pr_rng p hpr
  obtain ⟨Ma, a1, a2, a3⟩ := m12_laysForms hp hp2 hA hB hA3 hB3 hS
  generalize hM : smS (smS (smS (smS (smS (smS (smS (smS Ma 1000 26 (nI o)) 1000 27 (nI u)) 1000 28 (nI v)) 1000 29 0) 1000 34 0) (1000 + 29) 0 0) (1000 + 30) 0 0) 1000 38 1 = Mb
  have m0 : ∀ k, (k < 26 ∨ 38 < k) → Mb 1000 k = M 1000 k := fun k hk => by
    rw [← hM, smS_ne (by omega), smS_o (by omega), smS_o (by omega), smS_ne (by omega), smS_ne (by omega), smS_ne (by omega), smS_ne (by omega), smS_ne (by omega), a3 1000 (by omega) (by omega) (by omega)]
  have mo : ∀ r, r ≠ 1000 → r ≠ 1029 → r ≠ 1030 → Mb r = Ma r := fun r h1 h2 h3 => by
    rw [← hM, smS_o h1, smS_o h3, smS_o h2, smS_o h1, smS_o h1, smS_o h1, smS_o h1, smS_o h1]
  have hS' : SET2 Mb p A B uu vv F G := hS.fr (fun k hk => m0 k (by omega)) ((mo 1001 (by omega) (by omega) (by omega)).trans (a3 1001 (by omega) (by omega) (by omega)))
  obtain ⟨M', D, sx, sy, nm, mx, my, tl, b1, b2, b3⟩ := m12_walkl (M := Mb) (o := o) (u := u) (v := v) hpr hA hB hA3 hB3 ho hu hu9 hv hv9 hS' (a2.fr (mo 1016 (by omega) (by omega) (by omega)) (mo 1017 (by omega) (by omega) (by omega)))
    (by rw [← hM, smS_ne (by omega), smS_o (by omega), smS_o (by omega), smS_ne (by omega), smS_ne (by omega), smS_ne (by omega), smS_ne (by omega), smS_at])
    (by rw [← hM, smS_ne (by omega), smS_o (by omega), smS_o (by omega), smS_ne (by omega), smS_ne (by omega), smS_ne (by omega), smS_at])
    (by rw [← hM, smS_ne (by omega), smS_o (by omega), smS_o (by omega), smS_ne (by omega), smS_ne (by omega), smS_at])
    (by rw [← hM, smS_ne (by omega), smS_o (by omega), smS_o (by omega), smS_ne (by omega), smS_at]; rfl)
    (by rw [← hM, smS_ne (by omega), smS_o (by omega), smS_o (by omega), smS_at]; rfl)
    (by rw [← hM, smS_at]; rfl)
    (by rw [← hM, smS_o (by omega), smS_o (by omega)]; exact smS_at)
    (by rw [← hM, smS_o (by omega)]; exact smS_at)
  refine ⟨M', D, sx, sy, nm, mx, my, tl, ?_, b2, fun k hk => (b3.1 k (by omega) (by omega) (by omega)).trans (m0 k hk), fun r h1 h2 => (b3.2 r h1 (by omega)).trans ((mo r h1 (by omega) (by omega)).trans (a3 r (by omega) (by omega) (by omega)))⟩
  unfold m_X12_walks
  rw [a1, Option.bind_some, smB_e, smB_e, smB_e, smB_e, smB_e, c0_cl, g_22.2.2.2.2.2.2.2.1, ck_0 (by omega), smB_e, g_22.2.2.2.2.2.2.2.2.1, ck_0 (by omega), smB_e, smB_e, hM, b1]
def NF2 (M : smM) {p : Nat} [NeZero p] (A B : Nat) (F G : Nat → Nat → Fin p) (D : Nat) (sx sy : Nat → Nat) : Prop := (∃ (ρ σ : Nat → Nat → Fin p) (π : Nat → Nat) (sx' sy' : Nat → Nat), (∀ k, k < D → sx k = sx' k ∧ sy k = sy' k) ∧ SP2 M p D ρ σ π ∧ Ech (fun k d => Nn A B F G (sx' k) (sy' k) d) ρ σ π D ∧ ∀ i j d, red ρ π D (Nn A B F G i j) d = 0) ∧ TBL M A B F G
def BOTH (M1 M2 : smM) (b : Nat) {p : Nat} [NeZero p] (A B : Nat) (F G : Nat → Nat → Fin p) (o u v D : Nat) (sx sy : Nat → Nat) (nm : Nat) (mx my : Nat → Nat) (tl : Nat → Nat → Fin p) : Prop := BASE M1 b A B F G o u v D sx sy nm mx my tl ∧ MB2 M2 p nm mx my tl ∧ M2 1000 29 = nI D ∧ (∀ k, k < D → M2 1022 k = nI (sx k) ∧ M2 1023 k = nI (sy k)) ∧ NF2 M2 A B F G D sx sy
theorem both_of {M1 M2 : smM} {b p : Nat} [NeZero p] (hp : 2 ≤ p) {A B : Nat} {F G : Nat → Nat → Fin p} {o u v D : Nat} {sx sy : Nat → Nat} {nm : Nat} {mx my : Nat → Nat} {tl : Nat → Nat → Fin p} {D' : Nat} {sx' sy' : Nat → Nat} {nm' : Nat} {mx' my' : Nat → Nat} {tl' : Nat → Nat → Fin p} (h : BASE M1 b A B F G o u v D sx sy nm mx my tl) (h2 : BASE2 M2 A B F G o u v D' sx' sy' nm' mx' my' tl') : BOTH M1 M2 b A B F G o u v D sx sy nm mx my tl := by
  obtain ⟨a1, a2, a3, a4, a5, a6, a7⟩ := h2
  obtain ⟨eD, es⟩ := h.2.2.2.2.1.eq (fp_01 hp) a4
  obtain ⟨em, em2, em3⟩ := BMem.eq (fp_01 hp) h.2.2.2.2.1 a4 h.2.2.2.2.2.1 a5
  subst eD
  subst em
  refine ⟨h, ⟨a1.1, a1.2.1, fun k hk => ?_⟩, a2.2, fun k hk => ?_, ?_, a7⟩
  · obtain ⟨b1, b2, b3, b4, b5⟩ := a1.2.2 k hk
    rw [(em2 k hk).1, (em2 k hk).2]
    exact ⟨b1, b2, fun t ht => by rw [em3 k hk t]; exact b3 t ht, b4, b5⟩
  · rw [(es k hk).1, (es k hk).2]
    exact ⟨(a3 k hk).1, (a3 k hk).2.1⟩
  · obtain ⟨ρ, σ, π, c1, c2, c3⟩ := a6
    exact ⟨ρ, σ, π, sx', sy', es, c1, c2, c3⟩
theorem both_base {M1 M2 : smM} {p : Nat} [NeZero p] {A B u v o : Nat} {F G : Nat → Nat → Fin p} (hpar : PARAM p A B u v) (hs1 : SET M1 1 p A B u v F G) (hs2 : SET2 M2 p A B u v F G) (hca : CA M1 A B u v F G) (ho : o ≤ 4) : ∃ (M1' M2' : smM) (D : Nat) (sx sy : Nat → Nat) (nm : Nat) (mx my : Nat → Nat) (tl : Nat → Nat → Fin p), m_X11_baseIn 0 (nI o) M1 = some (149 + 58 * o, M1') ∧ m_X12_walksNow 1000 (nI o) M2 = some M2' ∧ CU M1' A B u v F G ∧ M1' 439 o = 1 ∧ BOTH M1' M2' (149 + 58 * o) A B F G o u v D sx sy nm mx my tl ∧ (∀ r, (r < 93 ∨ 440 ≤ r) → M1' r = M1 r) ∧ FR3 M2 M2' := by
  obtain ⟨M1', D, sx, sy, nm, mx, my, tl, a1, a2, a3, a4, a5⟩ := m_baseIn hpar hs1 hca ho
  obtain ⟨hpr, ⟨hA, hA3⟩, ⟨hB, hB3⟩, ⟨hu, hu9⟩, hv, hv9⟩ := hpar
  obtain ⟨M2', D', sx', sy', nm', mx', my', tl', b1, b2, b3⟩ := m12_walks (o := o) (u := u) (v := v) hpr hA hB hA3 hB3 ho hu hu9 hv hv9 hs2
  refine ⟨M1', M2', D, sx, sy, nm, mx, my, tl, a1, ?_, a2, a3, both_of (Pr_rng p hpr).1 a4 b2, a5, b3⟩
  unfold m_X12_walksNow
  rw [hs2.2.2.2.1, hs2.2.2.2.2.1, b1, Option.bind_some]
theorem rel_both {M1 M2 M1' M2' : smM} {p : Nat} {ne : NeZero p} {A B u v : Nat} {F G : Nat → Nat → Fin p} (hpar : PARAM p A B u v) (hs1 : SET M1 1 p A B u v F G) (hs2 : SET2 M2 p A B u v F G) (hsl : ∀ s, s < 4 → SLOT M1 M2 s p) (him : ∀ i, i < 2 → IMG M1 M2 i) (e1 : ∀ r, (r < 93 ∨ 440 ≤ r) → M1' r = M1 r) (hca : CU M1' A B u v F G) (e2 : FR3 M2 M2') : Rel M1' M2' := rel_ca hpar hs1 hs2 hsl him (fun r hr => e1 r (Or.inl hr)) hca.ca (fun k hk => e2.1 k (by omega)) (fun r h1 h2 => e2.2 r (by omega) (by omega))
theorem FR3.rf (M : smM) : FR3 M M := ⟨fun _ _ => rfl, fun _ _ _ => rfl⟩
theorem dim1 {A B : Nat} (hA : 1 ≤ A) (hB : 1 ≤ B) : nI A * nI B - 1 = nI (A * B - 1) := by
  have : 1 ≤ A * B := Nat.mul_le_mul hA hB
  rw [nI_mulN, show (1 : Int32) = nI 1 from rfl, nI_subN this]
theorem m_isStair {M : smM} {p A B u v : Nat} [NeZero p] {F G : Nat → Nat → Fin p} (hpar : PARAM p A B u v) (hS : SET M 1 p A B u v F G) (x : Int32) : m_X11_isStair 0 x M = some (b01 (0 ≤ x ∧ x ≤ nI (A * B - 1))) := by
  unfold m_X11_isStair m_X7_dimension
  rw [show M (0 + 1) 1 = nI A from hS.2.1, show M (0 + 1) 2 = nI B from hS.2.2.1, Option.bind_some, dim1 hpar.2.1.1 hpar.2.2.1.1, m_isWithin, Option.bind_some, smZ_b01]
theorem m12_inS {M : smM} {p A B u v : Nat} [NeZero p] {F G : Nat → Nat → Fin p} (hpar : PARAM p A B u v) (hS : SET2 M p A B u v F G) (x : Int32) : (Option.bind (m_X12_dimension 1000 M) fun v12 => m_X12_in x.toInt64 (0 : Int64) (v12 - 1).toInt64 M) = some (b01 (0 ≤ x ∧ x ≤ nI (A * B - 1))) := by
  unfold m_X12_dimension
  rw [Option.bind_some, hS.2.1, hS.2.2.1, dim1 hpar.2.1.1 hpar.2.2.1.1, show (0 : Int64) = (0 : Int32).toInt64 from rfl, m12_in]
def hsm (x y : Nat → Nat) : Nat → Nat
  | 0 => 0
  | k + 1 => if hsm x y k < x k + y k then x k + y k else hsm x y k
theorem hsm_lt {x y : Nat → Nat} {C : Nat} (hC : 0 < C) : ∀ {n : Nat}, (∀ k, k < n → x k + y k < C) → hsm x y n < C
  | 0, _ => hC
  | n + 1, h => by
    have := hsm_lt hC (n := n) (fun k hk => h k (by omega))
    have h2 := h n (by omega)
    simp only [hsm]
    split <;> omega
theorem m12_highest {a b n L : Nat} {x y : Nat → Nat} {M : smM} (la : smLn a = L) (lb : smLn b = L) (hn : n ≤ L) (hL : L < 1000) (h : ∀ k, k < n → M a k = nI (x k) ∧ M b k = nI (y k)) (hb : ∀ k, k < n → x k + y k < 10000) : m_X12_highest a b (nI n) M = some (nI (hsm x y n)) := by
  unfold m_X12_highest
  refine lp_cnt n (fun k => (nI (hsm x y k), nI k)) rfl (by omega) (fun k hk rc => ?_) (fun rc => ?_)
  · unfold m_X12_highest_b5
    simp only []
    have b1 := hsm_lt (x := x) (y := y) (C := 10000) (by omega) (n := k) (fun l hl => hb l (by omega))
    have b2 := hb k hk
    rw [if_neg (fun w => by rw [nI_le_iff (by omega) (by omega)] at w; omega), cl_nI (n := k) (by omega), la, lb, if_ck2 (by omega) (by omega), if_ck2 (by omega) (by omega), (h k hk).1, (h k hk).2, nI_ad, if_ck2 (by omega) (by omega), if_ck2 (by omega) (by omega), nI_add_1]
    by_cases c : hsm x y k < x k + y k
    · rw [if_neg (fun w => by rw [nI_le_iff (by omega) (by omega)] at w; omega)]
      simp only [hsm, if_pos c]
    · rw [if_pos (by rw [nI_le_iff (by omega) (by omega)]; omega)]
      simp only [hsm, if_neg c]
  · unfold m_X12_highest_b5
    simp only []
    rw [if_pos (Int32.le_refl _)]
theorem m_mbGreatest {g n : Nat} {x y : Nat → Nat} {M : smM} (hg : smT 1 g 4) (hn : n ≤ 10) (h0 : M g 0 = nI n) (h : ∀ k, k < n → M (g + 1) k = nI (x k) ∧ M (g + 2) k = nI (y k)) (hb : ∀ k, k < n → x k + y k < 10000) : m_X4_greatestSum g M = some (nI (hsm x y n)) := by
  unfold m_X4_greatestSum
  refine lp_cnt n (fun k => (nI (hsm x y k), nI k)) rfl (by omega) (fun k hk rc => ?_) (fun rc => ?_)
  · unfold m_X4_greatestSum_b4
    simp only []
    have b1 := hsm_lt (x := x) (y := y) (C := 10000) (by omega) (n := k) (fun l hl => hb l (by omega))
    have b2 := hb k hk
    rw [h0, if_neg (fun w => by rw [nI_le_iff (by omega) (by omega)] at w; omega), cl_nI (n := k) (by omega), l4_1 hg, l4_2 hg, if_ck2 (by omega) (by omega), if_ck2 (by omega) (by omega), (h k hk).1, (h k hk).2, nI_ad, nI_add_1]
    by_cases c : hsm x y k < x k + y k
    · rw [if_pos ((nI_lt_iff (by omega) (by omega)).mpr c)]
      simp only [hsm, if_pos c]
    · rw [if_neg (fun w => c ((nI_lt_iff (by omega) (by omega)).mp w))]
      simp only [hsm, if_neg c]
  · unfold m_X4_greatestSum_b4
    simp only []
    rw [h0, if_pos (Int32.le_refl _)]
theorem m_stGreatest {b n : Nat} {x y : Nat → Nat} {M : smM} (hg : smT 1 b 0) (hn : n ≤ 9) (h0 : M (b + 16) 0 = nI n) (h : ∀ k, k < n → M (b + 38) k = nI (x k) ∧ M (b + 39) k = nI (y k)) (hb : ∀ k, k < n → x k + y k < 10000) : m_X0_greatestStairSum b M = some (nI (hsm x y n)) := by
  unfold m_X0_greatestStairSum
  refine lp_cnt n (fun k => (nI (hsm x y k), nI k)) rfl (by omega) (fun k hk rc => ?_) (fun rc => ?_)
  · unfold m_X0_greatestStairSum_b4
    simp only []
    have b1 := hsm_lt (x := x) (y := y) (C := 10000) (by omega) (n := k) (fun l hl => hb l (by omega))
    have b2 := hb k hk
    rw [h0, if_neg (fun w => by rw [nI_le_iff (by omega) (by omega)] at w; omega), cl_nI (n := k) (by omega), l0_3 hg, l0_4 hg, if_ck2 (by omega) (by omega), if_ck2 (by omega) (by omega), (h k hk).1, (h k hk).2, nI_ad, nI_add_1]
    by_cases c : hsm x y k < x k + y k
    · rw [if_pos ((nI_lt_iff (by omega) (by omega)).mpr c)]
      simp only [hsm, if_pos c]
    · rw [if_neg (fun w => c ((nI_lt_iff (by omega) (by omega)).mp w))]
      simp only [hsm, if_neg c]
  · unfold m_X0_greatestStairSum_b4
    simp only []
    rw [h0, if_pos (Int32.le_refl _)]
theorem AB9 {p A B u v : Nat} (h : PARAM p A B u v) : A * B ≤ 9 := Nat.mul_le_mul h.2.1.2 h.2.2.1.2
theorem ne_rng {x : Int32} {k h : Nat} (hk : k ≤ h) (hh : h < 2147483648) (c : ¬ ((0 : Int32) ≤ x ∧ x ≤ nI h)) : ¬ x = nI k := fun e => c (by rw [e]; exact ⟨nI_0le (by omega), (nI_le_iff (by omega) (by omega)).mpr hk⟩)
theorem op_base : Op_base Rel := by
  intro M1 M2 h x y
  have hr := h
  obtain ⟨p, ne, A, B, u, v, F, G, hpar, hs1, hs2, hca, hsl, him⟩ := h
  have h9 := AB9 hpar
  by_cases c : (0 : Int32) ≤ x ∧ x ≤ 4
  · obtain ⟨o, o4, rfl⟩ := rngI (h := 4) (by omega) c.1 c.2
    obtain ⟨M1', M2', D, sx, sy, nm, mx, my, tl, a1, a2, a3, a4, ⟨b1, b2, b3, b4, b5⟩, a6, a7⟩ := both_base hpar hs1 hs2 hca o4
    have hrel := rel_both hpar hs1 hs2 hsl him a6 a3 a7
    have hbt := tb_o (o := o) (by omega)
    obtain ⟨tm, ts, tc⟩ := tb hbt
    have hD := b1.2.2.1
    have e1 : m_X11_base 0 (nI o) y M1 = if y = (0 : Int32) then (some ((M1' (149 + 58 * o + 2) 0), M1')) else if y = (1 : Int32) then (Option.bind (m_X4_greatestSum (149 + 58 * o + 2) M1') fun v56 => some (v56, M1')) else if y = (2 : Int32) then (Option.bind (m_X0_greatestStairSum (149 + 58 * o) M1') fun v61 => some (v61, M1')) else (some ((-1 : Int32), M1')) := by
      unfold m_X11_base
      rw [m_isOrder, Option.bind_some, b01_t c, if_1, a1, smB2_e]
    by_cases d : (0 : Int32) ≤ y ∧ y ≤ 2
    · obtain ⟨w, w2, rfl⟩ := rngI (h := 2) (by omega) d.1 d.2
      have e2 : m_X12_base 1000 (nI o) (nI w) M2 = if nI w = (0 : Int32) then (some ((M2' 1000 34), M2')) else (if nI w = (1 : Int32) then (Option.bind (m_X12_highest (1000 + 26) (1000 + 27) (M2' 1000 34) M2') fun v55 => some (v55, M2')) else (Option.bind (m_X12_highest (1000 + 22) (1000 + 23) (M2' 1000 29) M2') fun v73 => some (v73, M2'))) := by
        unfold m_X12_base
        rw [m12_isOrder, Option.bind_some, b01_t c, if_1, show (0 : Int64) = (0 : Int32).toInt64 from rfl, show (2 : Int64) = (2 : Int32).toInt64 from rfl, m12_in, Option.bind_some, b01_t d, if_1, a2, Option.bind_some]
      rcases (show w = 0 ∨ w = 1 ∨ w = 2 by omega) with rfl | rfl | rfl
      · rw [if_pos n_00, b1.2.1.2.1] at e1
        rw [if_pos n_00, b2.2.1] at e2
        exact ⟨_, _, _, e1, e2, hrel⟩
      · rw [if_neg n_10, if_pos n_11, m_mbGreatest (x := mx) (y := my) tm b1.2.1.1 b1.2.1.2.1 (fun k hk => ⟨(b1.2.1.2.2 k hk).1, (b1.2.1.2.2 k hk).2.1⟩) (fun k hk => by have := (b1.2.1.2.2 k hk).2.2.2; omega), Option.bind_some] at e1
        rw [if_neg n_10, if_pos n_11, b2.2.1, m12_highest (x := mx) (y := my) g_22.2.2.2.2.1 g_22.2.2.2.2.2.1 b2.1 (by omega) (fun k hk => ⟨(b2.2.2 k hk).1, (b2.2.2 k hk).2.1⟩) (fun k hk => by have := (b1.2.1.2.2 k hk).2.2.2; omega), Option.bind_some] at e2
        exact ⟨_, _, _, e1, e2, hrel⟩
      · have sb : ∀ k, k < D → sx k + sy k < 10000 := fun k hk => by have := (b1.2.2.2.1 k hk).2.2.1; omega
        rw [if_neg n_20, if_neg n_21, if_pos n_22, m_stGreatest (x := sx) (y := sy) hbt (by omega) hD.2 (fun k hk => ⟨(b1.2.2.2.1 k hk).1, (b1.2.2.2.1 k hk).2.1⟩) sb, Option.bind_some] at e1
        rw [if_neg n_20, if_neg n_21, b3, m12_highest (x := sx) (y := sy) g_22.1 g_22.2.1 (by omega) (by omega) b4 sb, Option.bind_some] at e2
        exact ⟨_, _, _, e1, e2, hrel⟩
    · have e2 : m_X12_base 1000 (nI o) y M2 = some (-1, M2) := by
        unfold m_X12_base
        rw [m12_isOrder, Option.bind_some, b01_t c, if_1, show (0 : Int64) = (0 : Int32).toInt64 from rfl, show (2 : Int64) = (2 : Int32).toInt64 from rfl, m12_in, Option.bind_some, b01_f d, if_0]
      rw [if_neg (show ¬ y = (0 : Int32) from ne_rng (k := 0) (h := 2) (by omega) (by omega) d), if_neg (show ¬ y = (1 : Int32) from ne_rng (k := 1) (h := 2) (by omega) (by omega) d), if_neg (show ¬ y = (2 : Int32) from ne_rng (k := 2) (h := 2) (by omega) (by omega) d)] at e1
      exact ⟨_, _, _, e1, e2, rel_both hpar hs1 hs2 hsl him a6 a3 (FR3.rf M2)⟩
  · have e1 : m_X11_base 0 x y M1 = some (-1, M1) := by
      unfold m_X11_base
      rw [m_isOrder, Option.bind_some, b01_f c, if_0]
    have e2 : m_X12_base 1000 x y M2 = some (-1, M2) := by
      unfold m_X12_base
      rw [m12_isOrder, Option.bind_some, b01_f c, if_0]
    exact ⟨_, _, _, e1, e2, hr⟩
