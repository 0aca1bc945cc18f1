/-! the relation of the two memories -/
theorem b01_t {c : Prop} [Decidable c] (h : c) : b01 c = 1 := if_pos h
theorem b01_f {c : Prop} [Decidable c] (h : ¬ c) : b01 c = 0 := if_neg h
theorem rngI {x : Int32} {h : Nat} (hh : h < 2147483648) (h1 : 0 ≤ x) (h2 : x ≤ nI h) : ∃ s, s ≤ h ∧ x = nI s := by
  have a := jI_of x
  have r := fb_rng x
  rw [Int32.le_iff_toInt_le] at h1 h2
  rw [nI_toInt hh] at h2
  have e0 : (0 : Int32).toInt = 0 := rfl
  rw [e0] at h1
  refine ⟨x.toInt.toNat, by omega, ?_⟩
  rw [jI_nI, Int.toNat_of_nonneg h1]
  exact a
theorem nat_of {x : Int32} (h1 : 0 ≤ x) : ∃ s, s < 2147483648 ∧ x = nI s := by
  have r := fb_rng x
  rw [Int32.le_iff_toInt_le] at h1
  have e0 : (0 : Int32).toInt = 0 := rfl
  rw [e0] at h1
  refine ⟨x.toInt.toNat, by omega, ?_⟩
  rw [jI_nI, Int.toNat_of_nonneg h1]
  exact jI_of x
theorem lg_lt {a b : Int64} : lg_cmp a b < (0 : Int32) ↔ a < b := by
  unfold lg_cmp
  by_cases c : a > b
  · rw [if_pos c]
    refine ⟨fun h => absurd h (by decide), fun h => ?_⟩
    rw [gt_iff_lt, Int64.lt_iff_toInt_lt] at c
    rw [Int64.lt_iff_toInt_lt] at h
    omega
  · rw [if_neg c]
    by_cases d : a = b
    · rw [if_pos d]
      subst d
      refine ⟨fun h => absurd h (by decide), fun h => absurd h c⟩
    · rw [if_neg d]
      refine ⟨fun _ => ?_, fun _ => by decide⟩
      rw [gt_iff_lt, Int64.lt_iff_toInt_lt] at c
      rw [← Int64.toInt_inj] at d
      rw [Int64.lt_iff_toInt_lt]
      omega
theorem lg_gt {a b : Int64} : (0 : Int32) < lg_cmp a b ↔ b < a := by
  unfold lg_cmp
  by_cases c : a > b
  · rw [if_pos c]
    exact ⟨fun _ => c, fun _ => by decide⟩
  · rw [if_neg c]
    refine ⟨fun h => ?_, fun h => absurd h c⟩
    by_cases d : a = b
    · rw [if_pos d] at h; exact absurd h (by decide)
    · rw [if_neg d] at h; exact absurd h (by decide)
theorem i64_lt {x y : Int32} : x.toInt64 < y.toInt64 ↔ x < y := by
  rw [Int64.lt_iff_toInt_lt, Int32.lt_iff_toInt_lt, Int32.toInt_toInt64, Int32.toInt_toInt64]
theorem m12_in (x l h : Int32) (M : smM) : m_X12_in x.toInt64 l.toInt64 h.toInt64 M = some (b01 (l ≤ x ∧ x ≤ h)) := by
  unfold m_X12_in b01
  by_cases a : x < l
  · rw [if_pos (lg_lt.mpr (i64_lt.mpr a)), if_neg (fun q => by
      have := q.1
      rw [Int32.le_iff_toInt_le] at this
      rw [Int32.lt_iff_toInt_lt] at a
      omega)]
  · rw [if_neg (fun q => a (i64_lt.mp (lg_lt.mp q)))]
    by_cases b : h < x
    · rw [if_pos (lg_gt.mpr (i64_lt.mpr b)), if_neg (fun q => by
        have := q.2
        rw [Int32.le_iff_toInt_le] at this
        rw [Int32.lt_iff_toInt_lt] at b
        omega)]
    · rw [if_neg (fun q => b (i64_lt.mp (lg_gt.mp q))), if_pos]
      rw [Int32.lt_iff_toInt_lt] at a b
      rw [Int32.le_iff_toInt_le, Int32.le_iff_toInt_le]
      omega
theorem m12_isSlot (x : Int32) (M : smM) : m_X12_isSlot x M = some (b01 (0 ≤ x ∧ x ≤ 3)) := by
  unfold m_X12_isSlot
  rw [show (0 : Int64) = (0 : Int32).toInt64 from rfl, show (3 : Int64) = (3 : Int32).toInt64 from rfl, m12_in, Option.bind_some, smZ_b01]
theorem m12_isOrder (a : Nat) (x : Int32) (M : smM) : m_X12_isOrder a x M = some (b01 (0 ≤ x ∧ x ≤ 4)) := by
  unfold m_X12_isOrder
  rw [show (0 : Int64) = (0 : Int32).toInt64 from rfl, show (4 : Int64) = (4 : Int32).toInt64 from rfl, m12_in, Option.bind_some, smZ_b01]
/-! its parts -/
def PARAM (p A B u v : Nat) : Prop := p ∈ PrL ∧ (1 ≤ A ∧ A ≤ 3) ∧ (1 ≤ B ∧ B ≤ 3) ∧ (1 ≤ u ∧ u ≤ 9) ∧ (1 ≤ v ∧ v ≤ 9)
def SET2 (M : smM) (p A B u v : Nat) [NeZero p] (F G : Nat → Nat → Fin p) : Prop := M 1000 0 = nI p ∧ M 1000 1 = nI A ∧ M 1000 2 = nI B ∧ M 1000 3 = nI u ∧ M 1000 4 = nI v ∧ (∀ k l, k < 3 → l < 3 → M 1001 (3 * k + l) = nI (F k l).val) ∧ ∀ k l, k < 3 → l < 3 → M 1001 (9 + 3 * k + l) = nI (G k l).val
def IM2 (M : smM) (i p A B u v : Nat) [NeZero p] (F G : Nat → Nat → Fin p) : Prop := M 1013 (23 * i) = nI p ∧ M 1013 (23 * i + 1) = nI A ∧ M 1013 (23 * i + 2) = nI B ∧ M 1013 (23 * i + 3) = nI u ∧ M 1013 (23 * i + 4) = nI v ∧ (∀ k l, k < 3 → l < 3 → M 1013 (23 * i + 5 + (3 * k + l)) = nI (F k l).val) ∧ ∀ k l, k < 3 → l < 3 → M 1013 (23 * i + 5 + (9 + 3 * k + l)) = nI (G k l).val
def IMG (M1 M2 : smM) (i : Nat) : Prop := (M1 11 i = 0 ∧ M2 1014 i = 0) ∨ (M1 11 i = 1 ∧ M2 1014 i = 1 ∧ ∃ (p : Nat) (_ : NeZero p) (A B u v : Nat) (F G : Nat → Nat → Fin p), PARAM p A B u v ∧ SET M1 (5 + 3 * i) p A B u v F G ∧ IM2 M2 i p A B u v F G)
/-- a polynomial: terms falling in order 0, with numbers that are not 0 -/
def PF (p n : Nat) (c x y : Nat → Nat) : Prop := (∀ k, k < n → 0 < c k ∧ c k < p ∧ x k < 2147483648 ∧ y k < 2147483648) ∧ ∀ k l, k < l → l < n → x l < x k ∨ x l = x k ∧ y l < y k
def PO (M : smM) (q n : Nat) (c x y : Nat → Nat) : Prop := M q 0 = nI n ∧ ∀ k, k < n → M (q + 1) k = nI (c k) ∧ M (q + 2) k = nI (x k) ∧ M (q + 3) k = nI (y k)
def SPO (M1 M2 : smM) (s p : Nat) : Prop := ∃ (n : Nat) (c x y : Nat → Nat), n ≤ 8 ∧ PF p n c x y ∧ PO M1 (13 + 20 * s + 1) n c x y ∧ M2 1003 s = nI n ∧ ∀ k, k < n → M2 1004 (8 * s + k) = nI (c k) ∧ M2 1005 (8 * s + k) = nI (x k) ∧ M2 1006 (8 * s + k) = nI (y k)
def KP (o u v nm : Nat) (mx my : Nat → Nat) (D : Nat) : Prop := ∃ sx sy : Nat → Nat, BRise (ky1 o u v) (ky2 o) D sx sy ∧ ∀ i j, isSt D sx sy i j ↔ ¬ isMu nm mx my i j
def SKE (M1 M2 : smM) (s p : Nat) : Prop := ∃ (_ : NeZero p) (o u v nm D : Nat) (mx my : Nat → Nat) (tl : Nat → Nat → Fin p), (o ≤ 4 ∧ (1 ≤ u ∧ u ≤ 9) ∧ (1 ≤ v ∧ v ≤ 9)) ∧ (M1 (13 + 20 * s + 5) 0 = nI o ∧ M1 (13 + 20 * s + 5) 1 = nI u ∧ M1 (13 + 20 * s + 5) 2 = nI v) ∧ MB M1 (13 + 20 * s + 6) p nm mx my tl ∧ (M2 1003 s = nI nm ∧ M2 1007 s = nI o ∧ M2 1008 s = nI u ∧ M2 1009 s = nI v) ∧ (∀ k, k < nm → M2 1010 (10 * s + k) = nI (mx k) ∧ M2 1011 (10 * s + k) = nI (my k) ∧ ∀ t, t < 9 → M2 1012 (90 * s + 9 * k + t) = nI (tl k t).val) ∧ KP o u v nm mx my D ∧ ∀ k, k < nm → ∀ t, D ≤ t → tl k t = 0
def SLOT (M1 M2 : smM) (s p : Nat) : Prop := (∃ n, n ≤ 8 ∧ M1 (13 + 20 * s + 1) 0 = nI n) ∧ (∃ n, n ≤ 10 ∧ M1 (13 + 20 * s + 6) 0 = nI n) ∧ ∃ κ : Nat, M1 (13 + 20 * s) 0 = nI κ ∧ M2 1002 s = nI κ ∧ (κ = 0 ∨ (κ = 1 ∧ SPO M1 M2 s p) ∨ (κ = 2 ∧ SKE M1 M2 s p))
/-! what the class keeps -/
def LST (M : smM) (q p : Nat) [NeZero p] (Z : Nat → Nat → Fin p) : Prop := ∃ (h : Nat) (c : Nat → Fin p), h ≤ 9 ∧ M q 0 = nI h ∧ M q 3 = nI p ∧ (∀ k, k ≤ h → M (q + 1) k = nI (c k).val) ∧ c h = 1 ∧ (∀ d, su (fun k => c k * Z k d) (h + 1) = 0) ∧ ∀ e : Nat → Fin p, (∀ d, su (fun k => e k * Z k d) h = 0) → ∀ k, k < h → e k = 0
def fpw {p : Nat} [NeZero p] (a : Fin p) : Nat → Fin p
  | 0 => 1
  | n + 1 => fpw a n * a
def evF {p : Nat} [NeZero p] (A : Nat) (F : Nat → Nat → Fin p) (x y : Fin p) : Fin p := fpw x A + dd F A (fun i j => fpw x i * fpw y j)
def evG {p : Nat} [NeZero p] (B : Nat) (G : Nat → Nat → Fin p) (x y : Fin p) : Fin p := fpw y B + dd G B (fun i j => fpw x i * fpw y j)
def isRt {p : Nat} [NeZero p] (A B : Nat) (F G : Nat → Nat → Fin p) (x y : Nat) : Prop := x < p ∧ y < p ∧ evF A F (fz p x) (fz p y) = 0 ∧ evG B G (fz p x) (fz p y) = 0
def RTS {p : Nat} [NeZero p] (A B : Nat) (F G : Nat → Nat → Fin p) (n : Nat) (rx ry : Nat → Nat) : Prop := (∀ k, k < n → isRt A B F G (rx k) (ry k)) ∧ (∀ k l, k < l → l < n → rx k < rx l ∨ rx k = rx l ∧ ry k < ry l) ∧ ∀ x y, isRt A B F G x y → ∃ k, k < n ∧ rx k = x ∧ ry k = y
def CA (M : smM) {p : Nat} [NeZero p] (A B u v : Nat) (F G : Nat → Nat → Fin p) : Prop := M 93 6 = 0 ∨ (M 93 6 = 1 ∧ QF M 94 p A B F G ∧ (M 439 0 = 1 ∧ M 439 1 = 1) ∧ (∀ o, o < 5 → M 439 o = 0 ∨ (M 439 o = 1 ∧ ∃ (D : Nat) (sx sy : Nat → Nat) (nm : Nat) (mx my : Nat → Nat) (tl : Nat → Nat → Fin p), BASE M (149 + 58 * o) A B F G o u v D sx sy nm mx my tl)) ∧ LST M 134 p (fun k d => Nn A B F G k 0 d) ∧ LST M 140 p (fun k d => Nn A B F G 0 k d) ∧ (M 93 7 = -1 ∨ ∃ (n : Nat) (rx ry : Nat → Nat), n ≤ 9 ∧ M 93 7 = nI n ∧ RTS A B F G n rx ry ∧ ∀ k, k < n → M 146 k = nI (rx k) ∧ M 147 k = nI (ry k)))
def Rel (M1 M2 : smM) : Prop := ∃ (p : Nat) (_ : NeZero p) (A B u v : Nat) (F G : Nat → Nat → Fin p), PARAM p A B u v ∧ SET M1 1 p A B u v F G ∧ SET2 M2 p A B u v F G ∧ CA M1 A B u v F G ∧ (∀ s, s < 4 → SLOT M1 M2 s p) ∧ ∀ i, i < 2 → IMG M1 M2 i
theorem LST.fr {M M' : smM} {q p : Nat} [NeZero p] {Z : Nat → Nat → Fin p} (h : LST M q p Z) (e : ∀ r, q ≤ r → r < q + 6 → M' r = M r) : LST M' q p Z := by
  obtain ⟨n, c, h1, h2, h3, h4, h5⟩ := h
  refine ⟨n, c, h1, ?_, ?_, fun k hk => ?_, h5⟩
  · rw [e q (by omega) (by omega)]; exact h2
  · rw [e q (by omega) (by omega)]; exact h3
  · rw [e (q + 1) (by omega) (by omega)]; exact h4 k hk
theorem CA.fr {M M' : smM} {p : Nat} [NeZero p] {A B u v : Nat} {F G : Nat → Nat → Fin p} (h : CA M A B u v F G) (hA : A ≤ 3) (hB : B ≤ 3) (e : ∀ r, 93 ≤ r → r < 440 → M' r = M r) : CA M' A B u v F G := by
  rcases h with h | ⟨h1, h2, h3, h4, h5, h6, h7⟩
  · left; rw [e 93 (by omega) (by omega)]; exact h
  · right
    refine ⟨?_, h2.fr hA hB (fun r a b => e r (by omega) (by omega)), ?_, fun o ho => ?_, h5.fr (fun r a b => e r (by omega) (by omega)), h6.fr (fun r a b => e r (by omega) (by omega)), ?_⟩
    · rw [e 93 (by omega) (by omega)]; exact h1
    · rw [e 439 (by omega) (by omega)]; exact h3
    · rw [e 439 (by omega) (by omega)]
      refine (h4 o ho).imp id ?_
      rintro ⟨a, D, sx, sy, nm, mx, my, tl, b⟩
      exact ⟨a, D, sx, sy, nm, mx, my, tl, b.fr (fun r a b => e r (by omega) (by omega))⟩
    · rw [e 93 (by omega) (by omega), e 146 (by omega) (by omega), e 147 (by omega) (by omega)]; exact h7
theorem CA.forget {M : smM} {p : Nat} [NeZero p] {A B u v : Nat} {F G : Nat → Nat → Fin p} : CA (smS M 93 6 0) A B u v F G := Or.inl smS_at
theorem SET.fr {M M' : smM} {t p A B u v : Nat} [NeZero p] {F G : Nat → Nat → Fin p} (h : SET M t p A B u v F G) (e : ∀ r, t ≤ r → r < t + 3 → M' r = M r) : SET M' t p A B u v F G := by
  unfold SET at *
  rw [e t (by omega) (by omega), e (t + 1) (by omega) (by omega), e (t + 2) (by omega) (by omega)]
  exact h
theorem SET2.fr {M M' : smM} {p A B u v : Nat} [NeZero p] {F G : Nat → Nat → Fin p} (h : SET2 M p A B u v F G) (e0 : ∀ k, k < 5 → M' 1000 k = M 1000 k) (e1 : M' 1001 = M 1001) : SET2 M' p A B u v F G := by
  unfold SET2 at *
  rw [e0 0 (by omega), e0 1 (by omega), e0 2 (by omega), e0 3 (by omega), e0 4 (by omega), e1]
  exact h
theorem IMG.fr {M1 M2 M1' M2' : smM} {i : Nat} (h : IMG M1 M2 i) (e0 : M1' 11 i = M1 11 i) (e1 : ∀ r, 5 + 3 * i ≤ r → r < 5 + 3 * i + 3 → M1' r = M1 r) (e2 : M2' 1014 i = M2 1014 i) (e3 : ∀ k, 23 * i ≤ k → k < 23 * i + 23 → M2' 1013 k = M2 1013 k) : IMG M1' M2' i := by
  rcases h with ⟨a, b⟩ | ⟨a, b, p, ne, A, B, u, v, F, G, h1, h2, h3⟩
  · exact Or.inl ⟨e0.trans a, e2.trans b⟩
  · refine Or.inr ⟨e0.trans a, e2.trans b, p, ne, A, B, u, v, F, G, h1, h2.fr e1, ?_⟩
    obtain ⟨g1, g2, g3, g4, g5, g6, g7⟩ := h3
    refine ⟨?_, ?_, ?_, ?_, ?_, fun k l hk hl => ?_, fun k l hk hl => ?_⟩
    · rw [e3 _ (by omega) (by omega)]; exact g1
    · rw [e3 _ (by omega) (by omega)]; exact g2
    · rw [e3 _ (by omega) (by omega)]; exact g3
    · rw [e3 _ (by omega) (by omega)]; exact g4
    · rw [e3 _ (by omega) (by omega)]; exact g5
    · rw [e3 _ (by omega) (by omega)]; exact g6 k l hk hl
    · rw [e3 _ (by omega) (by omega)]; exact g7 k l hk hl
def SAME2 (M M' : smM) (s : Nat) : Prop := M' 1002 s = M 1002 s ∧ M' 1003 s = M 1003 s ∧ (∀ k, k < 8 → M' 1004 (8 * s + k) = M 1004 (8 * s + k) ∧ M' 1005 (8 * s + k) = M 1005 (8 * s + k) ∧ M' 1006 (8 * s + k) = M 1006 (8 * s + k)) ∧ (M' 1007 s = M 1007 s ∧ M' 1008 s = M 1008 s ∧ M' 1009 s = M 1009 s) ∧ (∀ k, k < 10 → M' 1010 (10 * s + k) = M 1010 (10 * s + k) ∧ M' 1011 (10 * s + k) = M 1011 (10 * s + k)) ∧ ∀ k, k < 90 → M' 1012 (90 * s + k) = M 1012 (90 * s + k)
theorem SAME2.of {M M' : smM} (s : Nat) (e : ∀ r, 1002 ≤ r → r ≤ 1012 → M' r = M r) : SAME2 M M' s := by
  unfold SAME2
  rw [e 1002 (by omega) (by omega), e 1003 (by omega) (by omega), e 1004 (by omega) (by omega), e 1005 (by omega) (by omega), e 1006 (by omega) (by omega), e 1007 (by omega) (by omega), e 1008 (by omega) (by omega), e 1009 (by omega) (by omega), e 1010 (by omega) (by omega), e 1011 (by omega) (by omega), e 1012 (by omega) (by omega)]
  exact ⟨rfl, rfl, fun _ _ => ⟨rfl, rfl, rfl⟩, ⟨rfl, rfl, rfl⟩, fun _ _ => ⟨rfl, rfl⟩, fun _ _ => rfl⟩
theorem SLOT.fr {M1 M2 M1' M2' : smM} {s p : Nat} (h : SLOT M1 M2 s p) (e1 : ∀ r, 13 + 20 * s ≤ r → r < 33 + 20 * s → M1' r = M1 r) (e2 : SAME2 M2 M2' s) : SLOT M1' M2' s p := by
  obtain ⟨a1, a2, κ, a3, a4, a5⟩ := h
  obtain ⟨b1, b2, b3, b4, b5, b6⟩ := e2
  refine ⟨?_, ?_, κ, ?_, b1.trans a4, ?_⟩
  · rw [e1 _ (by omega) (by omega)]; exact a1
  · rw [e1 _ (by omega) (by omega)]; exact a2
  · rw [e1 _ (by omega) (by omega)]; exact a3
  · rcases a5 with a5 | ⟨k1, n, c, x, y, c1, c2, c3, c4, c5⟩ | ⟨k2, ne, o, u, v, nm, D, mx, my, tl, c1, c2, c3, c4, c5, c6⟩
    · exact Or.inl a5
    · refine Or.inr (Or.inl ⟨k1, n, c, x, y, c1, c2, ?_, b2.trans c4, fun k hk => ?_⟩)
      · unfold PO
        rw [e1 _ (by omega) (by omega), e1 (13 + 20 * s + 1 + 1) (by omega) (by omega), e1 (13 + 20 * s + 1 + 2) (by omega) (by omega), e1 (13 + 20 * s + 1 + 3) (by omega) (by omega)]; exact c3
      · obtain ⟨d1, d2, d3⟩ := b3 k (by omega)
        rw [d1, d2, d3]; exact c5 k hk
    · refine Or.inr (Or.inr ⟨k2, ne, o, u, v, nm, D, mx, my, tl, c1, ?_, c3.fr (fun r h1 h2 => e1 r (by omega) (by omega)), ?_, fun k hk => ?_, c6⟩)
      · rw [e1 _ (by omega) (by omega)]; exact c2
      · rw [b2, b4.1, b4.2.1, b4.2.2]; exact c4
      · have := c3.1
        obtain ⟨f1, f2, f3⟩ := c5 k hk
        refine ⟨(b5 k (by omega)).1.trans f1, (b5 k (by omega)).2.trans f2, fun t ht => ?_⟩
        have e := b6 (9 * k + t) (by omega)
        rw [← Nat.add_assoc] at e
        rw [e]; exact f3 t ht
theorem g_12 : smLn 12 = 4 := by decide +kernel
theorem g_11 : smLn 11 = 2 := by decide +kernel
theorem g_4 : smLn 4 = 2 := by decide +kernel
theorem g_2 : smLn 2 = 9 := by decide +kernel
theorem g_3 : smLn 3 = 9 := by decide +kernel
theorem g_1001 : smLn 1001 = 18 := by decide +kernel
theorem g_1002 : smLn 1002 = 4 := by decide +kernel
theorem g_1003 : smLn 1003 = 4 := by decide +kernel
theorem g_1004 : smLn 1004 = 32 := by decide +kernel
theorem g_1005 : smLn 1005 = 32 := by decide +kernel
theorem g_1006 : smLn 1006 = 32 := by decide +kernel
theorem g_1007 : smLn 1007 = 4 := by decide +kernel
theorem g_1008 : smLn 1008 = 4 := by decide +kernel
theorem g_1009 : smLn 1009 = 4 := by decide +kernel
theorem g_1013 : smLn 1013 = 46 := by decide +kernel
theorem g_1014 : smLn 1014 = 2 := by decide +kernel
theorem g_pl : ∀ s, s < 4 → smLn (13 + 20 * s + 1 + 1) = 8 ∧ smLn (13 + 20 * s + 1 + 2) = 8 ∧ smLn (13 + 20 * s + 1 + 3) = 8 := by decide +kernel
