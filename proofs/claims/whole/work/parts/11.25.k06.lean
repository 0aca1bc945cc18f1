set_option maxHeartbeats 4000000 in
set_option maxRecDepth 100000 in
theorem k_X3_raise (l : Launch) (D : va_G) (cA : Nat → ClassId) (adr : Nat → Nat) (hJ : smJ 1 adr) (a0 : Nat) (x1 : Int32) (ha0 : smT 1 a0 3) (M : smM) (M1 : smM) (h : m_X3_raise a0 x1 M = some M1) : Met l yX3_raise wsX3_raise ({ frames := 2, cells := 0, slots := 0, locals := 44 }) (smPc D cA 1 adr M [.ref (adr a0), .int x1]) (smQv D cA 1 adr M1) 0 0 (smA 1 adr) := by
  refine Met.ofW (cc := cX3_raise) (maxL := 4) (ret := none) (by decide) rfl ?_
  intro p e s m args below meth c s₁ B hml hv
  obtain ⟨rfl, hE, hP⟩ := hv
  have hx := B.exec
  have hb := B.bytes
  have hr := B.returns
  have hts := atoms_spec (ws := wsX3_raise) B.pre
  have hown : s.vm.findClass RX3 = some m.cls := findClass_of_methodNamed B.named
  have hlocks := B.notSynchronized
  have hS : va_S (smA 1 adr) s.heap s.heap [] := va_S.rf
  have hP : smP D cA 1 adr M s.heap := hP
  have hl := lv_entry ([.ref (adr a0), .int x1]) (n := 4) (Nat.le_of_ble_eq_true rfl)
  rw [lg_entry_eq]
  generalize (lg_sl ([.ref (adr a0), .int x1]) ++ List.replicate (4 - (lg_sl ([.ref (adr a0), .int x1])).length) Slot.unset).toArray = ls at hl ⊢
  have hl : lv_has ls 4 [(0, .ref (adr a0)), (1, .int x1)] := hl
  unfold m_X3_raise at h
  have hin3 : ∀ w ∈ u_ws RX3 TX3 7, w ∈ wsX3_raise := by decide +kernel
  refine lv_aload_n hx hb dX3_raise_0 rfl (lv_at hl 0 rfl) ?_
  refine sm_get (ci := 3) (C := RX3) (T := TX3) (N := 7) (v := .ref (adr (a0 + 2))) hx hb hts hin3 hown hE hP ha0 rfl rfl 2 (by decide) (hts (.fieldLink RX3 15 "OrderMover$Least" "raised" "[I") (by decide +kernel)) (fun _ h9 => h9) rfl dX3_raise_1 ?_
  obtain ⟨M4_709, hc4_710, h⟩ := sm_bd h
  refine sm_cv (va_runSN (As := [.ref (adr (a0 + 2))]) (rest := []) ⟨hx, hb, hml, hown, hts⟩ (k_X11_clear l D cA adr hJ (a0 + 2) (t3_2 ha0) M M4_709 hc4_710) ⟨va_cnB (host := "OrderMover") 1 hts gX3_raise_X11_clear_n49 rfl rfl rfl (hE.2 (RX3, 49, yX11_clear, "OrderMover") (by decide +kernel)) (hts (.initialized RX11) (by decide +kernel)) (by decide +kernel) ⟨Nat.le_of_ble_eq_true rfl, Nat.le_of_ble_eq_true rfl⟩, hts (.static yX11_clear) (by decide +kernel), trivial⟩ ⟨smPc_bl, smPc_in [.ref (adr (a0 + 2))] hE hP⟩ rfl rfl hl.1 rfl (lv_room (Nat.le_of_ble_eq_true rfl)) dX3_raise_4 ⟨Nat.zero_le _, Nat.zero_le _⟩) hS (fun H locs hP hS => ?_)
  refine lv_aload_n hx hb dX3_raise_7 rfl (lv_at hl 0 rfl) ?_
  refine sm_get (ci := 3) (C := RX3) (T := TX3) (N := 7) (v := .ref (adr (a0 + 2))) hx hb hts hin3 hown hE hP ha0 rfl rfl 2 (by decide) (hts (.fieldLink RX3 15 "OrderMover$Least" "raised" "[I") (by decide +kernel)) (fun _ h9 => h9) rfl dX3_raise_8 ?_
  refine lv_iconst (v := (0 : Int32)) hx hb dX3_raise_11 (by decide) ?_
  refine lv_iconst (v := (1 : Int32)) hx hb dX3_raise_12 (by decide) ?_
  obtain ⟨c13_711, h⟩ := sm_ck h
  refine sm_iast hx hb hE hJ hP hS (t3_2 ha0) c13_711 dX3_raise_13 (fun H locs hP hS => ?_)
  obtain ⟨M13_712, hM, h⟩ := sm_lt h
  rw [← hM] at hP; clear hM
  refine lv_iconst (v := (0 : Int32)) hx hb dX3_raise_14 (by decide) ?_
  refine lv_istore_n (lv' := [(2, .int (0 : Int32)), (0, .ref (adr a0)), (1, .int x1)]) hx hb dX3_raise_15 rfl hl (by decide) rfl (fun ls hl => ?_)
  refine lv_bipush (v := (30 : Int32)) hx hb dX3_raise_16 (by decide) ?_
  refine lv_istore_n (lv' := [(3, .int (30 : Int32)), (2, .int (0 : Int32)), (0, .ref (adr a0)), (1, .int x1)]) hx hb dX3_raise_18 rfl hl (by decide) rfl (fun ls hl => ?_)
  refine sm_lp (b := fun rc q => m_X3_raise_b19 a0 x1 rc q.1 q.2.1 q.2.2) (P := fun (q : Int32 × Int32 × smM) H locs ls => smP D cA 1 adr q.2.2 H ∧ va_S (smA 1 adr) s.heap H locs ∧ lv_has ls 4 [(0, .ref (adr a0)), (1, .int x1), (2, .int q.1), (3, .int q.2.1)]) (pc := 19) ?_ _ _ _ _ _ h ⟨hP, hS, lv_sub hl [2, 3, 1, 0] rfl⟩
  intro rc19_716 ih19_717 q H locs ls h hI
  obtain ⟨x2_19_713, x3_19_714, M19_715⟩ := q
  obtain ⟨hP, hS, hl⟩ := hI
  have hP : smP D cA 1 adr M19_715 H := hP
  have hl : lv_has ls 4 [(0, .ref (adr a0)), (1, .int x1), (2, .int x2_19_713), (3, .int x3_19_714)] := hl
  have h : m_X3_raise_b19 a0 x1 rc19_716 x2_19_713 x3_19_714 M19_715 = some _ := h
  unfold m_X3_raise_b19 at h
  refine lv_iload_n hx hb dX3_raise_19 rfl (lv_at hl 3 rfl) ?_
  refine lv_if_lt (tgt := 52) hx hb dX3_raise_20 (by decide) (fun c20_718 => ?_) (fun c20_718 => ?_)
  · rw [if_pos c20_718] at h
    cases h
    exact sm_vret hx hb hr hlocks hP hS dX3_raise_52
  · rw [if_neg c20_718] at h
    refine lv_iload_n hx hb dX3_raise_23 rfl (lv_at hl 2 rfl) ?_
    refine sm_jn (x := M1) (T := fun (q : smM) => m_X3_raise_j31 a0 x1 x2_19_713 x3_19_714 rc19_716 q) (P := fun (q : smM) H locs ls => smP D cA 1 adr q H ∧ va_S (smA 1 adr) s.heap H locs ∧ lv_has ls 4 [(0, .ref (adr a0)), (1, .int x1), (2, .int x2_19_713), (3, .int x3_19_714)]) (st := fun (q : smM) => []) (pc := 31) ?_ (fun J31_720 => ?_)
    · intro q H locs ls h hI
      obtain ⟨M31_719, hq⟩ : ∃ y, y = q := ⟨_, rfl⟩; subst hq
      obtain ⟨hP, hS, hl⟩ := hI
      have hP : smP D cA 1 adr M31_719 H := hP
      have hl : lv_has ls 4 [(0, .ref (adr a0)), (1, .int x1), (2, .int x2_19_713), (3, .int x3_19_714)] := hl
      have h : m_X3_raise_j31 a0 x1 x2_19_713 x3_19_714 rc19_716 M31_719 = some _ := h
      unfold m_X3_raise_j31 at h
      refine W.eq (g2 := F0 m 31 ls []) rfl ?_
      refine lv_iload_n hx hb dX3_raise_31 rfl (lv_at hl 1 rfl) ?_
      refine lv_iload_n hx hb dX3_raise_32 rfl (lv_at hl 3 rfl) ?_
      refine lv_ishr hx hb dX3_raise_33 ?_
      refine lv_iconst (v := (1 : Int32)) hx hb dX3_raise_34 (by decide) ?_
      refine lv_iand hx hb dX3_raise_35 ?_
      refine lv_iconst (v := (1 : Int32)) hx hb dX3_raise_36 (by decide) ?_
      refine lv_icmp_ne (tgt := 46) hx hb dX3_raise_37 (by decide) (fun c37_721 => ?_) (fun c37_721 => ?_)
      · rw [if_neg c37_721] at h
        refine lv_iinc (v := (x3_19_714 + (-1 : Int32))) (lv' := [(3, .int (x3_19_714 + (-1 : Int32))), (0, .ref (adr a0)), (1, .int x1), (2, .int x2_19_713)]) hx hb dX3_raise_46 hl (k := 3) rfl (congrArg (fun z => x3_19_714 + z) (by decide)) (by decide) rfl (fun ls hl => ?_)
        refine lv_goto (tgt := 19) hx hb dX3_raise_49 (by decide) ?_
        exact ih19_717 (x2_19_713, (x3_19_714 + (-1 : Int32)), M31_719) _ _ _ h ⟨hP, hS, lv_sub hl [1, 2, 3, 0] rfl⟩
      · rw [if_pos c37_721] at h
        refine lv_iconst (v := (1 : Int32)) hx hb dX3_raise_40 (by decide) ?_
        refine lv_istore_n (lv' := [(2, .int (1 : Int32)), (0, .ref (adr a0)), (1, .int x1), (3, .int x3_19_714)]) hx hb dX3_raise_41 rfl hl (by decide) rfl (fun ls hl => ?_)
        refine lv_aload_n hx hb dX3_raise_42 rfl (lv_at hl 1 rfl) ?_
        obtain ⟨M43_723, hc43_724, h⟩ := sm_bd h
        refine sm_cv (va_runV (As := []) (rest := []) ⟨hx, hb, hml, hown, hts⟩ (k_X3_shiftRaised l D cA adr hJ a0 ha0 M31_719 M43_723 hc43_724) (cwV 0 hts gX3_raise_X3_shiftRaised rfl rfl rfl (by decide +kernel) ⟨Nat.le_of_ble_eq_true rfl, Nat.le_of_ble_eq_true rfl⟩) ⟨smPc_bl, smRv hE hP ha0 rfl (ci := 3) (q := (RX3, TX3, 7)) rfl, smPc_in [.ref (adr a0)] hE hP⟩ rfl rfl hl.1 rfl (lv_room (Nat.le_of_ble_eq_true rfl)) dX3_raise_43 ⟨Nat.zero_le _, Nat.zero_le _⟩) hS (fun H locs hP hS => ?_)
        refine lv_iinc (v := (x3_19_714 + (-1 : Int32))) (lv' := [(3, .int (x3_19_714 + (-1 : Int32))), (2, .int (1 : Int32)), (0, .ref (adr a0)), (1, .int x1)]) hx hb dX3_raise_46 hl (k := 3) rfl (congrArg (fun z => x3_19_714 + z) (by decide)) (by decide) rfl (fun ls hl => ?_)
        refine lv_goto (tgt := 19) hx hb dX3_raise_49 (by decide) ?_
        exact ih19_717 ((1 : Int32), (x3_19_714 + (-1 : Int32)), M43_723) _ _ _ h ⟨hP, hS, lv_sub hl [2, 3, 1, 0] rfl⟩
    refine lv_if_eq (tgt := 31) hx hb dX3_raise_24 (by decide) (fun c24_725 => ?_) (fun c24_725 => ?_)
    · rw [if_pos c24_725] at h
      exact J31_720 M19_715 _ _ _ h ⟨hP, hS, lv_sub hl [0, 1, 2, 3] rfl⟩
    · rw [if_neg c24_725] at h
      refine lv_aload_n hx hb dX3_raise_27 rfl (lv_at hl 0 rfl) ?_
      obtain ⟨M28_727, hc28_728, h⟩ := sm_bd h
      refine sm_cv (va_runV (As := []) (rest := []) ⟨hx, hb, hml, hown, hts⟩ (k_X3_squareRaised l D cA adr hJ a0 ha0 M19_715 M28_727 hc28_728) (cwV 0 hts gX3_raise_X3_squareRaised rfl rfl rfl (by decide +kernel) ⟨Nat.le_of_ble_eq_true rfl, Nat.le_of_ble_eq_true rfl⟩) ⟨smPc_bl, smRv hE hP ha0 rfl (ci := 3) (q := (RX3, TX3, 7)) rfl, smPc_in [.ref (adr a0)] hE hP⟩ rfl rfl hl.1 rfl (lv_room (Nat.le_of_ble_eq_true rfl)) dX3_raise_28 ⟨Nat.zero_le _, Nat.zero_le _⟩) hS (fun H locs hP hS => ?_)
      exact J31_720 M28_727 _ _ _ h ⟨hP, hS, lv_sub hl [0, 1, 2, 3] rfl⟩
set_option maxHeartbeats 4000000 in
set_option maxRecDepth 100000 in
theorem k_X6_multiplyByPolynomial (l : Launch) (D : va_G) (cA : Nat → ClassId) (adr : Nat → Nat) (hJ : smJ 1 adr) (a0 : Nat) (x1 : Int32) (a2 : Nat) (a3 : Nat) (a4 : Nat) (ha0 : smT 1 a0 6) (ha2 : smT 1 a2 20) (ha3 : smT 1 a3 20) (ha4 : smT 1 a4 20) (M : smM) (M1 : smM) (h : m_X6_multiplyByPolynomial a0 x1 a2 a3 a4 M = some M1) : Met l yX6_multiplyByPolynomial wsX6_multiplyByPolynomial ({ frames := 2, cells := 0, slots := 0, locals := 50 }) (smPc D cA 1 adr M [.ref (adr a0), .int x1, .ref (adr a2), .ref (adr a3), .ref (adr a4)]) (smQv D cA 1 adr M1) 0 0 (smA 1 adr) := by
  refine Met.ofW (cc := cX6_multiplyByPolynomial) (maxL := 6) (ret := none) (by decide) rfl ?_
  intro p e s m args below meth c s₁ B hml hv
  obtain ⟨rfl, hE, hP⟩ := hv
  have hx := B.exec
  have hb := B.bytes
  have hr := B.returns
  have hts := atoms_spec (ws := wsX6_multiplyByPolynomial) B.pre
  have hown : s.vm.findClass RX6 = some m.cls := findClass_of_methodNamed B.named
  have hlocks := B.notSynchronized
  have hS : va_S (smA 1 adr) s.heap s.heap [] := va_S.rf
  have hP : smP D cA 1 adr M s.heap := hP
  have hl := lv_entry ([.ref (adr a0), .int x1, .ref (adr a2), .ref (adr a3), .ref (adr a4)]) (n := 6) (Nat.le_of_ble_eq_true rfl)
  rw [lg_entry_eq]
  generalize (lg_sl ([.ref (adr a0), .int x1, .ref (adr a2), .ref (adr a3), .ref (adr a4)]) ++ List.replicate (6 - (lg_sl ([.ref (adr a0), .int x1, .ref (adr a2), .ref (adr a3), .ref (adr a4)])).length) Slot.unset).toArray = ls at hl ⊢
  have hl : lv_has ls 6 [(0, .ref (adr a0)), (1, .int x1), (2, .ref (adr a2)), (3, .ref (adr a3)), (4, .ref (adr a4))] := hl
  unfold m_X6_multiplyByPolynomial at h
  have hin6 : ∀ w ∈ u_ws RX6 TX6 5, w ∈ wsX6_multiplyByPolynomial := by decide +kernel
  refine lv_aload hx hb dX6_multiplyByPolynomial_0 (lv_at hl 4 rfl) ?_
  obtain ⟨M2_730, hc2_731, h⟩ := sm_bd h
  refine sm_cv (va_runSN (As := [.ref (adr a4)]) (rest := []) ⟨hx, hb, hml, hown, hts⟩ (k_X11_clear l D cA adr hJ a4 ha4 M M2_730 hc2_731) ⟨va_cnB (host := "OrderMover") 1 hts gX6_multiplyByPolynomial_X11_clear_n47 rfl rfl rfl (hE.2 (RX6, 47, yX11_clear, "OrderMover") (by decide +kernel)) (hts (.initialized RX11) (by decide +kernel)) (by decide +kernel) ⟨Nat.le_of_ble_eq_true rfl, Nat.le_of_ble_eq_true rfl⟩, hts (.static yX11_clear) (by decide +kernel), trivial⟩ ⟨smPc_bl, smPc_in [.ref (adr a4)] hE hP⟩ rfl rfl hl.1 rfl (lv_room (Nat.le_of_ble_eq_true rfl)) dX6_multiplyByPolynomial_2 ⟨Nat.zero_le _, Nat.zero_le _⟩) hS (fun H locs hP hS => ?_)
  refine lv_aload_n hx hb dX6_multiplyByPolynomial_5 rfl (lv_at hl 2 rfl) ?_
  refine lv_aload_n hx hb dX6_multiplyByPolynomial_6 rfl (lv_at hl 2 rfl) ?_
  refine sm_alen hx hb hE hP ha2 dX6_multiplyByPolynomial_7 ?_
  refine lv_iconst (v := (1 : Int32)) hx hb dX6_multiplyByPolynomial_8 (by decide) ?_
  refine lv_isub hx hb dX6_multiplyByPolynomial_9 ?_
  obtain ⟨v10_732, hc10_734, h⟩ := sm_bd h
  refine sm_ci (va_runSN (As := [.ref (adr a2), .int ((nI (smLn a2)) - (1 : Int32))]) (rest := []) ⟨hx, hb, hml, hown, hts⟩ (k_X11_highestNotZero l D cA adr hJ a2 ((nI (smLn a2)) - (1 : Int32)) ha2 M2_730 v10_732 hc10_734) ⟨va_cnB (host := "OrderMover") 2 hts gX6_multiplyByPolynomial_X11_highestNotZero_n71 rfl rfl rfl (hE.2 (RX6, 71, yX11_highestNotZero, "OrderMover") (by decide +kernel)) (hts (.initialized RX11) (by decide +kernel)) (by decide +kernel) ⟨Nat.le_of_ble_eq_true rfl, Nat.le_of_ble_eq_true rfl⟩, hts (.static yX11_highestNotZero) (by decide +kernel), trivial⟩ ⟨smPc_bl, smPc_in [.ref (adr a2), .int ((nI (smLn a2)) - (1 : Int32))] hE hP⟩ rfl rfl hl.1 rfl (lv_room (Nat.le_of_ble_eq_true rfl)) dX6_multiplyByPolynomial_10 ⟨Nat.zero_le _, Nat.zero_le _⟩) hS (fun H locs hP hS => ?_)
  refine lv_istore (lv' := [(5, .int v10_732), (0, .ref (adr a0)), (1, .int x1), (2, .ref (adr a2)), (3, .ref (adr a3)), (4, .ref (adr a4))]) hx hb dX6_multiplyByPolynomial_13 hl (by decide) rfl (fun ls hl => ?_)
  refine sm_lp (b := fun rc q => m_X6_multiplyByPolynomial_b15 a0 x1 a2 a3 a4 rc q.1 q.2) (P := fun (q : Int32 × smM) H locs ls => smP D cA 1 adr q.2 H ∧ va_S (smA 1 adr) s.heap H locs ∧ lv_has ls 6 [(0, .ref (adr a0)), (1, .int x1), (2, .ref (adr a2)), (3, .ref (adr a3)), (4, .ref (adr a4)), (5, .int q.1)]) (pc := 15) ?_ _ _ _ _ _ h ⟨hP, hS, lv_sub hl [1, 2, 3, 4, 5, 0] rfl⟩
  intro rc15_737 ih15_738 q H locs ls h hI
  obtain ⟨x5_15_735, M15_736⟩ := q
  obtain ⟨hP, hS, hl⟩ := hI
  have hP : smP D cA 1 adr M15_736 H := hP
  have hl : lv_has ls 6 [(0, .ref (adr a0)), (1, .int x1), (2, .ref (adr a2)), (3, .ref (adr a3)), (4, .ref (adr a4)), (5, .int x5_15_735)] := hl
  have h : m_X6_multiplyByPolynomial_b15 a0 x1 a2 a3 a4 rc15_737 x5_15_735 M15_736 = some _ := h
  unfold m_X6_multiplyByPolynomial_b15 at h
  refine lv_iload hx hb dX6_multiplyByPolynomial_15 (lv_at hl 5 rfl) ?_
  refine lv_if_lt (tgt := 49) hx hb dX6_multiplyByPolynomial_17 (by decide) (fun c17_739 => ?_) (fun c17_739 => ?_)
  · rw [if_pos c17_739] at h
    cases h
    exact sm_vret hx hb hr hlocks hP hS dX6_multiplyByPolynomial_49
  · rw [if_neg c17_739] at h
    refine lv_aload_n hx hb dX6_multiplyByPolynomial_20 rfl (lv_at hl 0 rfl) ?_
    refine lv_iload_n hx hb dX6_multiplyByPolynomial_21 rfl (lv_at hl 1 rfl) ?_
    refine lv_aload hx hb dX6_multiplyByPolynomial_22 (lv_at hl 4 rfl) ?_
    refine lv_aload hx hb dX6_multiplyByPolynomial_24 (lv_at hl 4 rfl) ?_
    obtain ⟨M26_741, hc26_742, h⟩ := sm_bd h
    refine sm_cv (va_runV (As := [.int x1, .ref (adr a4), .ref (adr a4)]) (rest := []) ⟨hx, hb, hml, hown, hts⟩ (k_X6_multiply l D cA adr hJ a0 x1 a4 a4 ha0 ha4 ha4 M15_736 M26_741 hc26_742) (cwV 3 hts gX6_multiplyByPolynomial_X6_multiply rfl rfl rfl (by decide +kernel) ⟨Nat.le_of_ble_eq_true rfl, Nat.le_of_ble_eq_true rfl⟩) ⟨smPc_bl, smRv hE hP ha0 rfl (ci := 6) (q := (RX6, TX6, 5)) rfl, smPc_in [.ref (adr a0), .int x1, .ref (adr a4), .ref (adr a4)] hE hP⟩ rfl rfl hl.1 rfl (lv_room (Nat.le_of_ble_eq_true rfl)) dX6_multiplyByPolynomial_26 ⟨Nat.zero_le _, Nat.zero_le _⟩) hS (fun H locs hP hS => ?_)
    refine lv_aload hx hb dX6_multiplyByPolynomial_29 (lv_at hl 4 rfl) ?_
    refine lv_aload_n hx hb dX6_multiplyByPolynomial_31 rfl (lv_at hl 3 rfl) ?_
    refine lv_aload_n hx hb dX6_multiplyByPolynomial_32 rfl (lv_at hl 2 rfl) ?_
    refine lv_iload hx hb dX6_multiplyByPolynomial_33 (lv_at hl 5 rfl) ?_
    obtain ⟨c35_743, h⟩ := sm_ck h
    refine sm_iald hx hb hE hP ha2 c35_743 dX6_multiplyByPolynomial_35 ?_
    refine lv_aload_n hx hb dX6_multiplyByPolynomial_36 rfl (lv_at hl 0 rfl) ?_
    refine sm_get (ci := 6) (C := RX6) (T := TX6) (N := 5) (v := .int (M26_741 a0 0)) hx hb hts hin6 hown hE hP ha0 rfl rfl 0 (by decide) (hts (.fieldLink RX6 26 "OrderMover$Quotient" "p" "I") (by decide +kernel)) (fun _ h9 => h9) rfl dX6_multiplyByPolynomial_37 ?_
    obtain ⟨M40_745, hc40_746, h⟩ := sm_bd h
    refine sm_cv (va_runSN (As := [.ref (adr a4), .ref (adr a3), .int (M26_741 a2 (x5_15_735).toNatClampNeg), .int (M26_741 a0 0)]) (rest := []) ⟨hx, hb, hml, hown, hts⟩ (k_X11_bringMultiple l D cA adr hJ a4 a3 (M26_741 a2 (x5_15_735).toNatClampNeg) (M26_741 a0 0) ha4 ha3 M26_741 M40_745 hc40_746) ⟨va_cnB (host := "OrderMover") 4 hts gX6_multiplyByPolynomial_X11_bringMultiple_n67 rfl rfl rfl (hE.2 (RX6, 67, yX11_bringMultiple, "OrderMover") (by decide +kernel)) (hts (.initialized RX11) (by decide +kernel)) (by decide +kernel) ⟨Nat.le_of_ble_eq_true rfl, Nat.le_of_ble_eq_true rfl⟩, hts (.static yX11_bringMultiple) (by decide +kernel), trivial⟩ ⟨smPc_bl, smPc_in [.ref (adr a4), .ref (adr a3), .int (M26_741 a2 (x5_15_735).toNatClampNeg), .int (M26_741 a0 0)] hE hP⟩ rfl rfl hl.1 rfl (lv_room (Nat.le_of_ble_eq_true rfl)) dX6_multiplyByPolynomial_40 ⟨Nat.zero_le _, Nat.zero_le _⟩) hS (fun H locs hP hS => ?_)
    refine lv_iinc (v := (x5_15_735 + (-1 : Int32))) (lv' := [(5, .int (x5_15_735 + (-1 : Int32))), (0, .ref (adr a0)), (1, .int x1), (2, .ref (adr a2)), (3, .ref (adr a3)), (4, .ref (adr a4))]) hx hb dX6_multiplyByPolynomial_43 hl (k := 5) rfl (congrArg (fun z => x5_15_735 + z) (by decide)) (by decide) rfl (fun ls hl => ?_)
    refine lv_goto (tgt := 15) hx hb dX6_multiplyByPolynomial_46 (by decide) ?_
    exact ih15_738 ((x5_15_735 + (-1 : Int32)), M40_745) _ _ _ h ⟨hP, hS, lv_sub hl [1, 2, 3, 4, 5, 0] rfl⟩
set_option maxHeartbeats 4000000 in
set_option maxRecDepth 100000 in
theorem k_X2_vectorOfTerm (l : Launch) (D : va_G) (cA : Nat → ClassId) (adr : Nat → Nat) (hJ : smJ 1 adr) (a0 : Nat) (x1 : Int32) (x2 : Int32) (a3 : Nat) (ha0 : smT 1 a0 2) (ha3 : smT 1 a3 20) (M : smM) (M1 : smM) (h : m_X2_vectorOfTerm a0 x1 x2 a3 M = some M1) : Met l yX2_vectorOfTerm wsX2_vectorOfTerm ({ frames := 3, cells := 0, slots := 0, locals := 75 }) (smPc D cA 1 adr M [.ref (adr a0), .int x1, .int x2, .ref (adr a3)]) (smQv D cA 1 adr M1) 0 0 (smA 1 adr) := by
  refine Met.ofW (cc := cX2_vectorOfTerm) (maxL := 4) (ret := none) (by decide) rfl ?_
  intro p e s m args below meth c s₁ B hml hv
  obtain ⟨rfl, hE, hP⟩ := hv
  have hx := B.exec
  have hb := B.bytes
  have hr := B.returns
  have hts := atoms_spec (ws := wsX2_vectorOfTerm) B.pre
  have hown : s.vm.findClass RX2 = some m.cls := findClass_of_methodNamed B.named
  have hlocks := B.notSynchronized
  have hS : va_S (smA 1 adr) s.heap s.heap [] := va_S.rf
  have hP : smP D cA 1 adr M s.heap := hP
  have hl := lv_entry ([.ref (adr a0), .int x1, .int x2, .ref (adr a3)]) (n := 4) (Nat.le_of_ble_eq_true rfl)
  rw [lg_entry_eq]
  generalize (lg_sl ([.ref (adr a0), .int x1, .int x2, .ref (adr a3)]) ++ List.replicate (4 - (lg_sl ([.ref (adr a0), .int x1, .int x2, .ref (adr a3)])).length) Slot.unset).toArray = ls at hl ⊢
  have hl : lv_has ls 4 [(0, .ref (adr a0)), (1, .int x1), (2, .int x2), (3, .ref (adr a3))] := hl
  unfold m_X2_vectorOfTerm at h
  have hin2 : ∀ w ∈ u_ws RX2 TX2 9, w ∈ wsX2_vectorOfTerm := by decide +kernel
  have hin3 : ∀ w ∈ u_ws RX3 TX3 7, w ∈ wsX2_vectorOfTerm := by decide +kernel
  refine lv_aload_n hx hb dX2_vectorOfTerm_0 rfl (lv_at hl 0 rfl) ?_
  refine sm_get (ci := 2) (C := RX2) (T := TX2) (N := 9) (v := .ref (adr (a0 + 40))) hx hb hts hin2 hown hE hP ha0 rfl rfl 1 (by decide) (hts (.fieldLink RX2 20 "OrderMover$Ideal" "leasts" "[LOrderMover$Least;") (by decide +kernel)) (fun _ h9 => h9) rfl dX2_vectorOfTerm_1 ?_
  refine lv_iconst (v := (0 : Int32)) hx hb dX2_vectorOfTerm_4 (by decide) ?_
  obtain ⟨c5_747, h⟩ := sm_ck h
  refine sm_aald25 hx hb hE hP (t2_1 ha0) c5_747 dX2_vectorOfTerm_5 ?_
  refine lv_iload_n hx hb dX2_vectorOfTerm_6 rfl (lv_at hl 1 rfl) ?_
  obtain ⟨M7_749, hc7_750, h⟩ := sm_bd h
  refine sm_cv (va_runV (As := [.int x1]) (rest := []) ⟨hx, hb, hml, hown, hts⟩ (k_X3_raise l D cA adr hJ ((a0 + 40) + 1 + 6 * ((0 : Int32)).toNatClampNeg) x1 (te25 (t2_1 ha0) c5_747) M M7_749 hc7_750) (cwV 1 hts gX2_vectorOfTerm_X3_raise rfl rfl rfl (by decide +kernel) ⟨Nat.le_of_ble_eq_true rfl, Nat.le_of_ble_eq_true rfl⟩) ⟨smPc_bl, smRv hE hP (te25 (t2_1 ha0) c5_747) rfl (ci := 3) (q := (RX3, TX3, 7)) rfl, smPc_in [.ref (adr ((a0 + 40) + 1 + 6 * ((0 : Int32)).toNatClampNeg)), .int x1] hE hP⟩ rfl rfl hl.1 rfl (lv_room (Nat.le_of_ble_eq_true rfl)) dX2_vectorOfTerm_7 ⟨Nat.zero_le _, Nat.zero_le _⟩) hS (fun H locs hP hS => ?_)
  refine lv_aload_n hx hb dX2_vectorOfTerm_10 rfl (lv_at hl 0 rfl) ?_
  refine sm_get (ci := 2) (C := RX2) (T := TX2) (N := 9) (v := .ref (adr (a0 + 40))) hx hb hts hin2 hown hE hP ha0 rfl rfl 1 (by decide) (hts (.fieldLink RX2 20 "OrderMover$Ideal" "leasts" "[LOrderMover$Least;") (by decide +kernel)) (fun _ h9 => h9) rfl dX2_vectorOfTerm_11 ?_
  refine lv_iconst (v := (1 : Int32)) hx hb dX2_vectorOfTerm_14 (by decide) ?_
  obtain ⟨c15_751, h⟩ := sm_ck h
  refine sm_aald25 hx hb hE hP (t2_1 ha0) c15_751 dX2_vectorOfTerm_15 ?_
  refine lv_iload_n hx hb dX2_vectorOfTerm_16 rfl (lv_at hl 2 rfl) ?_
  obtain ⟨M17_753, hc17_754, h⟩ := sm_bd h
  refine sm_cv (va_runV (As := [.int x2]) (rest := []) ⟨hx, hb, hml, hown, hts⟩ (k_X3_raise l D cA adr hJ ((a0 + 40) + 1 + 6 * ((1 : Int32)).toNatClampNeg) x2 (te25 (t2_1 ha0) c15_751) M7_749 M17_753 hc17_754) (cwV 1 hts gX2_vectorOfTerm_X3_raise rfl rfl rfl (by decide +kernel) ⟨Nat.le_of_ble_eq_true rfl, Nat.le_of_ble_eq_true rfl⟩) ⟨smPc_bl, smRv hE hP (te25 (t2_1 ha0) c15_751) rfl (ci := 3) (q := (RX3, TX3, 7)) rfl, smPc_in [.ref (adr ((a0 + 40) + 1 + 6 * ((1 : Int32)).toNatClampNeg)), .int x2] hE hP⟩ rfl rfl hl.1 rfl (lv_room (Nat.le_of_ble_eq_true rfl)) dX2_vectorOfTerm_17 ⟨Nat.zero_le _, Nat.zero_le _⟩) hS (fun H locs hP hS => ?_)
  refine lv_aload_n hx hb dX2_vectorOfTerm_20 rfl (lv_at hl 0 rfl) ?_
  refine sm_get (ci := 2) (C := RX2) (T := TX2) (N := 9) (v := .ref (adr (a0 + 1))) hx hb hts hin2 hown hE hP ha0 rfl rfl 0 (by decide) (hts (.fieldLink RX2 12 "OrderMover$Ideal" "quotient" "LOrderMover$Quotient;") (by decide +kernel)) (fun _ h9 => h9) rfl dX2_vectorOfTerm_21 ?_
  refine lv_aload_n hx hb dX2_vectorOfTerm_24 rfl (lv_at hl 3 rfl) ?_
  obtain ⟨M25_756, hc25_757, h⟩ := sm_bd h
  refine sm_cv (va_runV (As := [.ref (adr a3)]) (rest := []) ⟨hx, hb, hml, hown, hts⟩ (k_X6_toOne l D cA adr hJ (a0 + 1) a3 (t2_0 ha0) ha3 M17_753 M25_756 hc25_757) (cwV 1 hts gX2_vectorOfTerm_X6_toOne rfl rfl rfl (by decide +kernel) ⟨Nat.le_of_ble_eq_true rfl, Nat.le_of_ble_eq_true rfl⟩) ⟨smPc_bl, smRv hE hP (t2_0 ha0) rfl (ci := 6) (q := (RX6, TX6, 5)) rfl, smPc_in [.ref (adr (a0 + 1)), .ref (adr a3)] hE hP⟩ rfl rfl hl.1 rfl (lv_room (Nat.le_of_ble_eq_true rfl)) dX2_vectorOfTerm_25 ⟨Nat.zero_le _, Nat.zero_le _⟩) hS (fun H locs hP hS => ?_)
  refine lv_aload_n hx hb dX2_vectorOfTerm_28 rfl (lv_at hl 0 rfl) ?_
  refine sm_get (ci := 2) (C := RX2) (T := TX2) (N := 9) (v := .ref (adr (a0 + 1))) hx hb hts hin2 hown hE hP ha0 rfl rfl 0 (by decide) (hts (.fieldLink RX2 12 "OrderMover$Ideal" "quotient" "LOrderMover$Quotient;") (by decide +kernel)) (fun _ h9 => h9) rfl dX2_vectorOfTerm_29 ?_
  refine lv_iconst (v := (0 : Int32)) hx hb dX2_vectorOfTerm_32 (by decide) ?_
  refine lv_aload_n hx hb dX2_vectorOfTerm_33 rfl (lv_at hl 0 rfl) ?_
  refine sm_get (ci := 2) (C := RX2) (T := TX2) (N := 9) (v := .ref (adr (a0 + 40))) hx hb hts hin2 hown hE hP ha0 rfl rfl 1 (by decide) (hts (.fieldLink RX2 20 "OrderMover$Ideal" "leasts" "[LOrderMover$Least;") (by decide +kernel)) (fun _ h9 => h9) rfl dX2_vectorOfTerm_34 ?_
  refine lv_iconst (v := (0 : Int32)) hx hb dX2_vectorOfTerm_37 (by decide) ?_
  obtain ⟨c38_758, h⟩ := sm_ck h
  refine sm_aald25 hx hb hE hP (t2_1 ha0) c38_758 dX2_vectorOfTerm_38 ?_
  refine sm_get (ci := 3) (C := RX3) (T := TX3) (N := 7) (v := .ref (adr (((a0 + 40) + 1 + 6 * ((0 : Int32)).toNatClampNeg) + 2))) hx hb hts hin3 hown hE hP (te25 (t2_1 ha0) c38_758) rfl rfl 2 (by decide) (hts (.fieldLink RX2 101 "OrderMover$Least" "raised" "[I") (by decide +kernel)) (fun _ h9 => h9) rfl dX2_vectorOfTerm_39 ?_
  refine lv_aload_n hx hb dX2_vectorOfTerm_42 rfl (lv_at hl 3 rfl) ?_
  refine lv_aload_n hx hb dX2_vectorOfTerm_43 rfl (lv_at hl 0 rfl) ?_
  refine sm_get (ci := 2) (C := RX2) (T := TX2) (N := 9) (v := .ref (adr (a0 + 347))) hx hb hts hin2 hown hE hP ha0 rfl rfl 8 (by decide) (hts (.fieldLink RX2 45 "OrderMover$Ideal" "partial" "[I") (by decide +kernel)) (fun _ h9 => h9) rfl dX2_vectorOfTerm_44 ?_
  obtain ⟨M47_760, hc47_761, h⟩ := sm_bd h
  refine sm_cv (va_runV (As := [.int (0 : Int32), .ref (adr (((a0 + 40) + 1 + 6 * ((0 : Int32)).toNatClampNeg) + 2)), .ref (adr a3), .ref (adr (a0 + 347))]) (rest := []) ⟨hx, hb, hml, hown, hts⟩ (k_X6_multiplyByPolynomial l D cA adr hJ (a0 + 1) (0 : Int32) (((a0 + 40) + 1 + 6 * ((0 : Int32)).toNatClampNeg) + 2) a3 (a0 + 347) (t2_0 ha0) (t3_2 (te25 (t2_1 ha0) c38_758)) ha3 (t2_8 ha0) M25_756 M47_760 hc47_761) (cwV 4 hts gX2_vectorOfTerm_X6_multiplyByPolynomial rfl rfl rfl (by decide +kernel) ⟨Nat.le_of_ble_eq_true rfl, Nat.le_of_ble_eq_true rfl⟩) ⟨smPc_bl, smRv hE hP (t2_0 ha0) rfl (ci := 6) (q := (RX6, TX6, 5)) rfl, smPc_in [.ref (adr (a0 + 1)), .int (0 : Int32), .ref (adr (((a0 + 40) + 1 + 6 * ((0 : Int32)).toNatClampNeg) + 2)), .ref (adr a3), .ref (adr (a0 + 347))] hE hP⟩ rfl rfl hl.1 rfl (lv_room (Nat.le_of_ble_eq_true rfl)) dX2_vectorOfTerm_47 ⟨Nat.zero_le _, Nat.zero_le _⟩) hS (fun H locs hP hS => ?_)
  refine lv_aload_n hx hb dX2_vectorOfTerm_50 rfl (lv_at hl 0 rfl) ?_
  refine sm_get (ci := 2) (C := RX2) (T := TX2) (N := 9) (v := .ref (adr (a0 + 1))) hx hb hts hin2 hown hE hP ha0 rfl rfl 0 (by decide) (hts (.fieldLink RX2 12 "OrderMover$Ideal" "quotient" "LOrderMover$Quotient;") (by decide +kernel)) (fun _ h9 => h9) rfl dX2_vectorOfTerm_51 ?_
  refine lv_iconst (v := (1 : Int32)) hx hb dX2_vectorOfTerm_54 (by decide) ?_
  refine lv_aload_n hx hb dX2_vectorOfTerm_55 rfl (lv_at hl 0 rfl) ?_
  refine sm_get (ci := 2) (C := RX2) (T := TX2) (N := 9) (v := .ref (adr (a0 + 40))) hx hb hts hin2 hown hE hP ha0 rfl rfl 1 (by decide) (hts (.fieldLink RX2 20 "OrderMover$Ideal" "leasts" "[LOrderMover$Least;") (by decide +kernel)) (fun _ h9 => h9) rfl dX2_vectorOfTerm_56 ?_
  refine lv_iconst (v := (1 : Int32)) hx hb dX2_vectorOfTerm_59 (by decide) ?_
  obtain ⟨c60_762, h⟩ := sm_ck h
  refine sm_aald25 hx hb hE hP (t2_1 ha0) c60_762 dX2_vectorOfTerm_60 ?_
  refine sm_get (ci := 3) (C := RX3) (T := TX3) (N := 7) (v := .ref (adr (((a0 + 40) + 1 + 6 * ((1 : Int32)).toNatClampNeg) + 2))) hx hb hts hin3 hown hE hP (te25 (t2_1 ha0) c60_762) rfl rfl 2 (by decide) (hts (.fieldLink RX2 101 "OrderMover$Least" "raised" "[I") (by decide +kernel)) (fun _ h9 => h9) rfl dX2_vectorOfTerm_61 ?_
  refine lv_aload_n hx hb dX2_vectorOfTerm_64 rfl (lv_at hl 0 rfl) ?_
  refine sm_get (ci := 2) (C := RX2) (T := TX2) (N := 9) (v := .ref (adr (a0 + 347))) hx hb hts hin2 hown hE hP ha0 rfl rfl 8 (by decide) (hts (.fieldLink RX2 45 "OrderMover$Ideal" "partial" "[I") (by decide +kernel)) (fun _ h9 => h9) rfl dX2_vectorOfTerm_65 ?_
  refine lv_aload_n hx hb dX2_vectorOfTerm_68 rfl (lv_at hl 3 rfl) ?_
  obtain ⟨M69_764, hc69_765, h⟩ := sm_bd h
  refine sm_cv (va_runV (As := [.int (1 : Int32), .ref (adr (((a0 + 40) + 1 + 6 * ((1 : Int32)).toNatClampNeg) + 2)), .ref (adr (a0 + 347)), .ref (adr a3)]) (rest := []) ⟨hx, hb, hml, hown, hts⟩ (k_X6_multiplyByPolynomial l D cA adr hJ (a0 + 1) (1 : Int32) (((a0 + 40) + 1 + 6 * ((1 : Int32)).toNatClampNeg) + 2) (a0 + 347) a3 (t2_0 ha0) (t3_2 (te25 (t2_1 ha0) c60_762)) (t2_8 ha0) ha3 M47_760 M69_764 hc69_765) (cwV 4 hts gX2_vectorOfTerm_X6_multiplyByPolynomial rfl rfl rfl (by decide +kernel) ⟨Nat.le_of_ble_eq_true rfl, Nat.le_of_ble_eq_true rfl⟩) ⟨smPc_bl, smRv hE hP (t2_0 ha0) rfl (ci := 6) (q := (RX6, TX6, 5)) rfl, smPc_in [.ref (adr (a0 + 1)), .int (1 : Int32), .ref (adr (((a0 + 40) + 1 + 6 * ((1 : Int32)).toNatClampNeg) + 2)), .ref (adr (a0 + 347)), .ref (adr a3)] hE hP⟩ rfl rfl hl.1 rfl (lv_room (Nat.le_of_ble_eq_true rfl)) dX2_vectorOfTerm_69 ⟨Nat.zero_le _, Nat.zero_le _⟩) hS (fun H locs hP hS => ?_)
  cases h
  exact sm_vret hx hb hr hlocks hP hS dX2_vectorOfTerm_72
set_option maxHeartbeats 4000000 in
set_option maxRecDepth 100000 in
theorem k_X4_copyFrom (l : Launch) (D : va_G) (cA : Nat → ClassId) (adr : Nat → Nat) (hJ : smJ 1 adr) (a0 : Nat) (a1 : Nat) (ha0 : smT 1 a0 4) (ha1 : smT 1 a1 4) (M : smM) (M1 : smM) (h : m_X4_copyFrom a0 a1 M = some M1) : Met l yX4_copyFrom wsX4_copyFrom ({ frames := 0, cells := 0, slots := 0, locals := 0 }) (smPc D cA 1 adr M [.ref (adr a0), .ref (adr a1)]) (smQv D cA 1 adr M1) 0 0 (smA 1 adr) := by
  refine Met.ofW (cc := cX4_copyFrom) (maxL := 4) (ret := none) (by decide) rfl ?_
  intro p e s m args below meth c s₁ B hml hv
  obtain ⟨rfl, hE, hP⟩ := hv
  have hx := B.exec
  have hb := B.bytes
  have hr := B.returns
  have hts := atoms_spec (ws := wsX4_copyFrom) B.pre
  have hown : s.vm.findClass RX4 = some m.cls := findClass_of_methodNamed B.named
  have hlocks := B.notSynchronized
  have hS : va_S (smA 1 adr) s.heap s.heap [] := va_S.rf
  have hP : smP D cA 1 adr M s.heap := hP
  have hl := lv_entry ([.ref (adr a0), .ref (adr a1)]) (n := 4) (Nat.le_of_ble_eq_true rfl)
  rw [lg_entry_eq]
  generalize (lg_sl ([.ref (adr a0), .ref (adr a1)]) ++ List.replicate (4 - (lg_sl ([.ref (adr a0), .ref (adr a1)])).length) Slot.unset).toArray = ls at hl ⊢
  have hl : lv_has ls 4 [(0, .ref (adr a0)), (1, .ref (adr a1))] := hl
  unfold m_X4_copyFrom at h
  have hin4 : ∀ w ∈ u_ws RX4 TX4 4, w ∈ wsX4_copyFrom := by decide +kernel
  refine lv_aload_n hx hb dX4_copyFrom_0 rfl (lv_at hl 0 rfl) ?_
  refine lv_aload_n hx hb dX4_copyFrom_1 rfl (lv_at hl 1 rfl) ?_
  refine sm_get (ci := 4) (C := RX4) (T := TX4) (N := 4) (v := .int (M a1 0)) hx hb hts hin4 hown hE hP ha1 rfl rfl 0 (by decide) (hts (.fieldLink RX4 23 "OrderMover$Members" "howMany" "I") (by decide +kernel)) (fun _ h9 => h9) rfl dX4_copyFrom_2 ?_
  refine sm_put (ci := 4) (C := RX4) (T := TX4) (N := 4) (ty := .int) hx hb hts hin4 tyX4 tyX4_ok nmX4 hown hE hJ hP hS ha0 rfl rfl 0 (by decide) (hts (.fieldLink RX4 23 "OrderMover$Members" "howMany" "I") (by decide +kernel)) (fun _ h9 => h9) rfl (by decide +kernel) rfl rfl (Nat.le_of_ble_eq_true rfl) rfl dX4_copyFrom_5 (fun H locs hP hS => ?_)
  obtain ⟨M5_766, hM, h⟩ := sm_lt h
  rw [← hM] at hP; clear hM
  refine lv_iconst (v := (0 : Int32)) hx hb dX4_copyFrom_8 (by decide) ?_
  refine lv_istore_n (lv' := [(2, .int (0 : Int32)), (0, .ref (adr a0)), (1, .ref (adr a1))]) hx hb dX4_copyFrom_9 rfl hl (by decide) rfl (fun ls hl => ?_)
  refine sm_lp (b := fun rc q => m_X4_copyFrom_b10 a0 a1 rc q.1 q.2) (P := fun (q : Int32 × smM) H locs ls => smP D cA 1 adr q.2 H ∧ va_S (smA 1 adr) s.heap H locs ∧ lv_has ls 4 [(0, .ref (adr a0)), (1, .ref (adr a1)), (2, .int q.1)]) (pc := 10) ?_ _ _ _ _ _ h ⟨hP, hS, lv_sub hl [1, 2, 0] rfl⟩
  intro rc10_769 ih10_770 q H locs ls h hI
  obtain ⟨x2_10_767, M10_768⟩ := q
  obtain ⟨hP, hS, hl⟩ := hI
  have hP : smP D cA 1 adr M10_768 H := hP
  have hl : lv_has ls 4 [(0, .ref (adr a0)), (1, .ref (adr a1)), (2, .int x2_10_767)] := hl
  have h : m_X4_copyFrom_b10 a0 a1 rc10_769 x2_10_767 M10_768 = some _ := h
  unfold m_X4_copyFrom_b10 at h
  refine lv_iload_n hx hb dX4_copyFrom_10 rfl (lv_at hl 2 rfl) ?_
  refine lv_aload_n hx hb dX4_copyFrom_11 rfl (lv_at hl 0 rfl) ?_
  refine sm_get (ci := 4) (C := RX4) (T := TX4) (N := 4) (v := .int (M10_768 a0 0)) hx hb hts hin4 hown hE hP ha0 rfl rfl 0 (by decide) (hts (.fieldLink RX4 23 "OrderMover$Members" "howMany" "I") (by decide +kernel)) (fun _ h9 => h9) rfl dX4_copyFrom_12 ?_
  refine lv_icmp_ge (tgt := 78) hx hb dX4_copyFrom_15 (by decide) (fun c15_771 => ?_) (fun c15_771 => ?_)
  · rw [if_pos c15_771] at h
    cases h
    exact sm_vret hx hb hr hlocks hP hS dX4_copyFrom_78
  · rw [if_neg c15_771] at h
    refine lv_aload_n hx hb dX4_copyFrom_18 rfl (lv_at hl 0 rfl) ?_
    refine sm_get (ci := 4) (C := RX4) (T := TX4) (N := 4) (v := .ref (adr (a0 + 1))) hx hb hts hin4 hown hE hP ha0 rfl rfl 1 (by decide) (hts (.fieldLink RX4 9 "OrderMover$Members" "xs" "[I") (by decide +kernel)) (fun _ h9 => h9) rfl dX4_copyFrom_19 ?_
    refine lv_iload_n hx hb dX4_copyFrom_22 rfl (lv_at hl 2 rfl) ?_
    refine lv_aload_n hx hb dX4_copyFrom_23 rfl (lv_at hl 1 rfl) ?_
    refine sm_get (ci := 4) (C := RX4) (T := TX4) (N := 4) (v := .ref (adr (a1 + 1))) hx hb hts hin4 hown hE hP ha1 rfl rfl 1 (by decide) (hts (.fieldLink RX4 9 "OrderMover$Members" "xs" "[I") (by decide +kernel)) (fun _ h9 => h9) rfl dX4_copyFrom_24 ?_
    refine lv_iload_n hx hb dX4_copyFrom_27 rfl (lv_at hl 2 rfl) ?_
    obtain ⟨c28_772, h⟩ := sm_ck h
    refine sm_iald hx hb hE hP (t4_1 ha1) c28_772 dX4_copyFrom_28 ?_
    obtain ⟨c29_773, h⟩ := sm_ck h
    refine sm_iast hx hb hE hJ hP hS (t4_1 ha0) c29_773 dX4_copyFrom_29 (fun H locs hP hS => ?_)
    obtain ⟨M29_774, hM, h⟩ := sm_lt h
    rw [← hM] at hP; clear hM
    refine lv_aload_n hx hb dX4_copyFrom_30 rfl (lv_at hl 0 rfl) ?_
    refine sm_get (ci := 4) (C := RX4) (T := TX4) (N := 4) (v := .ref (adr (a0 + 2))) hx hb hts hin4 hown hE hP ha0 rfl rfl 2 (by decide) (hts (.fieldLink RX4 15 "OrderMover$Members" "ys" "[I") (by decide +kernel)) (fun _ h9 => h9) rfl dX4_copyFrom_31 ?_
    refine lv_iload_n hx hb dX4_copyFrom_34 rfl (lv_at hl 2 rfl) ?_
    refine lv_aload_n hx hb dX4_copyFrom_35 rfl (lv_at hl 1 rfl) ?_
    refine sm_get (ci := 4) (C := RX4) (T := TX4) (N := 4) (v := .ref (adr (a1 + 2))) hx hb hts hin4 hown hE hP ha1 rfl rfl 2 (by decide) (hts (.fieldLink RX4 15 "OrderMover$Members" "ys" "[I") (by decide +kernel)) (fun _ h9 => h9) rfl dX4_copyFrom_36 ?_
    refine lv_iload_n hx hb dX4_copyFrom_39 rfl (lv_at hl 2 rfl) ?_
    obtain ⟨c40_775, h⟩ := sm_ck h
    refine sm_iald hx hb hE hP (t4_2 ha1) c40_775 dX4_copyFrom_40 ?_
    obtain ⟨c41_776, h⟩ := sm_ck h
    refine sm_iast hx hb hE hJ hP hS (t4_2 ha0) c41_776 dX4_copyFrom_41 (fun H locs hP hS => ?_)
    obtain ⟨M41_777, hM, h⟩ := sm_lt h
    rw [← hM] at hP; clear hM
    refine lv_iconst (v := (0 : Int32)) hx hb dX4_copyFrom_42 (by decide) ?_
    refine lv_istore_n (lv' := [(3, .int (0 : Int32)), (0, .ref (adr a0)), (1, .ref (adr a1)), (2, .int x2_10_767)]) hx hb dX4_copyFrom_43 rfl hl (by decide) rfl (fun ls hl => ?_)
    refine sm_lp (b := fun rc q => m_X4_copyFrom_b44 a0 a1 x2_10_767 rc10_769 rc q.1 q.2) (P := fun (q : Int32 × smM) H locs ls => smP D cA 1 adr q.2 H ∧ va_S (smA 1 adr) s.heap H locs ∧ lv_has ls 4 [(0, .ref (adr a0)), (1, .ref (adr a1)), (2, .int x2_10_767), (3, .int q.1)]) (pc := 44) ?_ _ _ _ _ _ h ⟨hP, hS, lv_sub hl [1, 2, 3, 0] rfl⟩
    intro rc44_780 ih44_781 q H locs ls h hI
    obtain ⟨x3_44_778, M44_779⟩ := q
    obtain ⟨hP, hS, hl⟩ := hI
    have hP : smP D cA 1 adr M44_779 H := hP
    have hl : lv_has ls 4 [(0, .ref (adr a0)), (1, .ref (adr a1)), (2, .int x2_10_767), (3, .int x3_44_778)] := hl
    have h : m_X4_copyFrom_b44 a0 a1 x2_10_767 rc10_769 rc44_780 x3_44_778 M44_779 = some _ := h
    unfold m_X4_copyFrom_b44 at h
    refine lv_iload_n hx hb dX4_copyFrom_44 rfl (lv_at hl 3 rfl) ?_
    refine lv_bipush (v := (9 : Int32)) hx hb dX4_copyFrom_45 (by decide) ?_
    refine lv_icmp_ge (tgt := 72) hx hb dX4_copyFrom_47 (by decide) (fun c47_782 => ?_) (fun c47_782 => ?_)
    · rw [if_pos c47_782] at h
      refine lv_iinc (v := (x2_10_767 + (1 : Int32))) (lv' := [(2, .int (x2_10_767 + (1 : Int32))), (0, .ref (adr a0)), (1, .ref (adr a1)), (3, .int x3_44_778)]) hx hb dX4_copyFrom_72 hl (k := 2) rfl (congrArg (fun z => x2_10_767 + z) (by decide)) (by decide) rfl (fun ls hl => ?_)
      refine lv_goto (tgt := 10) hx hb dX4_copyFrom_75 (by decide) ?_
      exact ih10_770 ((x2_10_767 + (1 : Int32)), M44_779) _ _ _ h ⟨hP, hS, lv_sub hl [1, 2, 0] rfl⟩
    · rw [if_neg c47_782] at h
      refine lv_aload_n hx hb dX4_copyFrom_50 rfl (lv_at hl 0 rfl) ?_
      refine sm_get (ci := 4) (C := RX4) (T := TX4) (N := 4) (v := .ref (adr (a0 + 3))) hx hb hts hin4 hown hE hP ha0 rfl rfl 3 (by decide) (hts (.fieldLink RX4 20 "OrderMover$Members" "tails" "[[I") (by decide +kernel)) (fun _ h9 => h9) rfl dX4_copyFrom_51 ?_
      refine lv_iload_n hx hb dX4_copyFrom_54 rfl (lv_at hl 2 rfl) ?_
      obtain ⟨c55_783, h⟩ := sm_ck h
      refine sm_aald22 hx hb hE hP (t4_3 ha0) c55_783 dX4_copyFrom_55 ?_
      refine lv_iload_n hx hb dX4_copyFrom_56 rfl (lv_at hl 3 rfl) ?_
      refine lv_aload_n hx hb dX4_copyFrom_57 rfl (lv_at hl 1 rfl) ?_
      refine sm_get (ci := 4) (C := RX4) (T := TX4) (N := 4) (v := .ref (adr (a1 + 3))) hx hb hts hin4 hown hE hP ha1 rfl rfl 3 (by decide) (hts (.fieldLink RX4 20 "OrderMover$Members" "tails" "[[I") (by decide +kernel)) (fun _ h9 => h9) rfl dX4_copyFrom_58 ?_
      refine lv_iload_n hx hb dX4_copyFrom_61 rfl (lv_at hl 2 rfl) ?_
      obtain ⟨c62_784, h⟩ := sm_ck h
      refine sm_aald22 hx hb hE hP (t4_3 ha1) c62_784 dX4_copyFrom_62 ?_
      refine lv_iload_n hx hb dX4_copyFrom_63 rfl (lv_at hl 3 rfl) ?_
      obtain ⟨c64_785, h⟩ := sm_ck h
      refine sm_iald hx hb hE hP (te22 (t4_3 ha1) c62_784) c64_785 dX4_copyFrom_64 ?_
      obtain ⟨c65_786, h⟩ := sm_ck h
      refine sm_iast hx hb hE hJ hP hS (te22 (t4_3 ha0) c55_783) c65_786 dX4_copyFrom_65 (fun H locs hP hS => ?_)
      obtain ⟨M65_787, hM, h⟩ := sm_lt h
      rw [← hM] at hP; clear hM
      refine lv_iinc (v := (x3_44_778 + (1 : Int32))) (lv' := [(3, .int (x3_44_778 + (1 : Int32))), (0, .ref (adr a0)), (1, .ref (adr a1)), (2, .int x2_10_767)]) hx hb dX4_copyFrom_66 hl (k := 3) rfl (congrArg (fun z => x3_44_778 + z) (by decide)) (by decide) rfl (fun ls hl => ?_)
      refine lv_goto (tgt := 44) hx hb dX4_copyFrom_69 (by decide) ?_
      exact ih44_781 ((x3_44_778 + (1 : Int32)), M65_787) _ _ _ h ⟨hP, hS, lv_sub hl [1, 2, 3, 0] rfl⟩
set_option maxHeartbeats 4000000 in
set_option maxRecDepth 100000 in
theorem k_X4_countTerms (l : Launch) (D : va_G) (cA : Nat → ClassId) (adr : Nat → Nat) (hJ : smJ 1 adr) (a0 : Nat) (x1 : Int32) (ha0 : smT 1 a0 4) (M : smM) (v1 : Int32) (h : m_X4_countTerms a0 x1 M = some v1) : Met l yX4_countTerms wsX4_countTerms ({ frames := 0, cells := 0, slots := 0, locals := 0 }) (smPc D cA 1 adr M [.ref (adr a0), .int x1]) (smQi D cA 1 adr M v1) 0 0 (smA 1 adr) := by
  refine Met.ofW (cc := cX4_countTerms) (maxL := 4) (ret := (some .int)) (by decide) rfl ?_
  intro p e s m args below meth c s₁ B hml hv
  obtain ⟨rfl, hE, hP⟩ := hv
  have hx := B.exec
  have hb := B.bytes
  have hr := B.returns
  have hts := atoms_spec (ws := wsX4_countTerms) B.pre
  have hown : s.vm.findClass RX4 = some m.cls := findClass_of_methodNamed B.named
  have hlocks := B.notSynchronized
  have hS : va_S (smA 1 adr) s.heap s.heap [] := va_S.rf
  have hP : smP D cA 1 adr M s.heap := hP
  have hl := lv_entry ([.ref (adr a0), .int x1]) (n := 4) (Nat.le_of_ble_eq_true rfl)
  rw [lg_entry_eq]
  generalize (lg_sl ([.ref (adr a0), .int x1]) ++ List.replicate (4 - (lg_sl ([.ref (adr a0), .int x1])).length) Slot.unset).toArray = ls at hl ⊢
  have hl : lv_has ls 4 [(0, .ref (adr a0)), (1, .int x1)] := hl
  unfold m_X4_countTerms at h
  have hin4 : ∀ w ∈ u_ws RX4 TX4 4, w ∈ wsX4_countTerms := by decide +kernel
  refine lv_iconst (v := (1 : Int32)) hx hb dX4_countTerms_0 (by decide) ?_
  refine lv_istore_n (lv' := [(2, .int (1 : Int32)), (0, .ref (adr a0)), (1, .int x1)]) hx hb dX4_countTerms_1 rfl hl (by decide) rfl (fun ls hl => ?_)
  refine lv_iconst (v := (0 : Int32)) hx hb dX4_countTerms_2 (by decide) ?_
  refine lv_istore_n (lv' := [(3, .int (0 : Int32)), (2, .int (1 : Int32)), (0, .ref (adr a0)), (1, .int x1)]) hx hb dX4_countTerms_3 rfl hl (by decide) rfl (fun ls hl => ?_)
  refine sm_lp (b := fun rc q => m_X4_countTerms_b4 a0 x1 M rc q.1 q.2) (P := fun (q : Int32 × Int32) H locs ls => smP D cA 1 adr M H ∧ va_S (smA 1 adr) s.heap H locs ∧ lv_has ls 4 [(0, .ref (adr a0)), (1, .int x1), (2, .int q.1), (3, .int q.2)]) (pc := 4) ?_ _ _ _ _ _ h ⟨hP, hS, lv_sub hl [2, 3, 1, 0] rfl⟩
  intro rc4_790 ih4_791 q H locs ls h hI
  obtain ⟨x2_4_788, x3_4_789⟩ := q
  obtain ⟨hP, hS, hl⟩ := hI
  have hP : smP D cA 1 adr M H := hP
  have hl : lv_has ls 4 [(0, .ref (adr a0)), (1, .int x1), (2, .int x2_4_788), (3, .int x3_4_789)] := hl
  have h : m_X4_countTerms_b4 a0 x1 M rc4_790 x2_4_788 x3_4_789 = some _ := h
  unfold m_X4_countTerms_b4 at h
  refine lv_iload_n hx hb dX4_countTerms_4 rfl (lv_at hl 3 rfl) ?_
  refine lv_bipush (v := (9 : Int32)) hx hb dX4_countTerms_5 (by decide) ?_
  refine lv_icmp_ge (tgt := 30) hx hb dX4_countTerms_7 (by decide) (fun c7_792 => ?_) (fun c7_792 => ?_)
  · rw [if_pos c7_792] at h
    refine lv_iload_n hx hb dX4_countTerms_30 rfl (lv_at hl 2 rfl) ?_
    cases h
    exact sm_iret hx hb hr hlocks hP hS dX4_countTerms_31
  · rw [if_neg c7_792] at h
    refine lv_aload_n hx hb dX4_countTerms_10 rfl (lv_at hl 0 rfl) ?_
    refine sm_get (ci := 4) (C := RX4) (T := TX4) (N := 4) (v := .ref (adr (a0 + 3))) hx hb hts hin4 hown hE hP ha0 rfl rfl 3 (by decide) (hts (.fieldLink RX4 20 "OrderMover$Members" "tails" "[[I") (by decide +kernel)) (fun _ h9 => h9) rfl dX4_countTerms_11 ?_
    refine lv_iload_n hx hb dX4_countTerms_14 rfl (lv_at hl 1 rfl) ?_
    obtain ⟨c15_793, h⟩ := sm_ck h
    refine sm_aald22 hx hb hE hP (t4_3 ha0) c15_793 dX4_countTerms_15 ?_
    refine lv_iload_n hx hb dX4_countTerms_16 rfl (lv_at hl 3 rfl) ?_
    obtain ⟨c17_794, h⟩ := sm_ck h
    refine sm_iald hx hb hE hP (te22 (t4_3 ha0) c15_793) c17_794 dX4_countTerms_17 ?_
    refine lv_if_eq (tgt := 24) hx hb dX4_countTerms_18 (by decide) (fun c18_795 => ?_) (fun c18_795 => ?_)
    · rw [if_pos c18_795] at h
      refine lv_iinc (v := (x3_4_789 + (1 : Int32))) (lv' := [(3, .int (x3_4_789 + (1 : Int32))), (0, .ref (adr a0)), (1, .int x1), (2, .int x2_4_788)]) hx hb dX4_countTerms_24 hl (k := 3) rfl (congrArg (fun z => x3_4_789 + z) (by decide)) (by decide) rfl (fun ls hl => ?_)
      refine lv_goto (tgt := 4) hx hb dX4_countTerms_27 (by decide) ?_
      exact ih4_791 (x2_4_788, (x3_4_789 + (1 : Int32))) _ _ _ h ⟨hP, hS, lv_sub hl [1, 2, 3, 0] rfl⟩
    · rw [if_neg c18_795] at h
      refine lv_iinc (v := (x2_4_788 + (1 : Int32))) (lv' := [(2, .int (x2_4_788 + (1 : Int32))), (0, .ref (adr a0)), (1, .int x1), (3, .int x3_4_789)]) hx hb dX4_countTerms_21 hl (k := 2) rfl (congrArg (fun z => x2_4_788 + z) (by decide)) (by decide) rfl (fun ls hl => ?_)
      refine lv_iinc (v := (x3_4_789 + (1 : Int32))) (lv' := [(3, .int (x3_4_789 + (1 : Int32))), (2, .int (x2_4_788 + (1 : Int32))), (0, .ref (adr a0)), (1, .int x1)]) hx hb dX4_countTerms_24 hl (k := 3) rfl (congrArg (fun z => x3_4_789 + z) (by decide)) (by decide) rfl (fun ls hl => ?_)
      refine lv_goto (tgt := 4) hx hb dX4_countTerms_27 (by decide) ?_
      exact ih4_791 ((x2_4_788 + (1 : Int32)), (x3_4_789 + (1 : Int32))) _ _ _ h ⟨hP, hS, lv_sub hl [2, 3, 1, 0] rfl⟩
set_option maxHeartbeats 4000000 in
set_option maxRecDepth 100000 in
theorem k_X4_greatestSum (l : Launch) (D : va_G) (cA : Nat → ClassId) (adr : Nat → Nat) (hJ : smJ 1 adr) (a0 : Nat) (ha0 : smT 1 a0 4) (M : smM) (v1 : Int32) (h : m_X4_greatestSum a0 M = some v1) : Met l yX4_greatestSum wsX4_greatestSum ({ frames := 1, cells := 0, slots := 0, locals := 27 }) (smPc D cA 1 adr M [.ref (adr a0)]) (smQi D cA 1 adr M v1) 0 0 (smA 1 adr) := by
  refine Met.ofW (cc := cX4_greatestSum) (maxL := 3) (ret := (some .int)) (by decide) rfl ?_
  intro p e s m args below meth c s₁ B hml hv
  obtain ⟨rfl, hE, hP⟩ := hv
  have hx := B.exec
  have hb := B.bytes
  have hr := B.returns
  have hts := atoms_spec (ws := wsX4_greatestSum) B.pre
  have hown : s.vm.findClass RX4 = some m.cls := findClass_of_methodNamed B.named
  have hlocks := B.notSynchronized
  have hS : va_S (smA 1 adr) s.heap s.heap [] := va_S.rf
  have hP : smP D cA 1 adr M s.heap := hP
  have hl := lv_entry ([.ref (adr a0)]) (n := 3) (Nat.le_of_ble_eq_true rfl)
  rw [lg_entry_eq]
  generalize (lg_sl ([.ref (adr a0)]) ++ List.replicate (3 - (lg_sl ([.ref (adr a0)])).length) Slot.unset).toArray = ls at hl ⊢
  have hl : lv_has ls 3 [(0, .ref (adr a0))] := hl
  unfold m_X4_greatestSum at h
  have hin4 : ∀ w ∈ u_ws RX4 TX4 4, w ∈ wsX4_greatestSum := by decide +kernel
  refine lv_iconst (v := (0 : Int32)) hx hb dX4_greatestSum_0 (by decide) ?_
  refine lv_istore_n (lv' := [(1, .int (0 : Int32)), (0, .ref (adr a0))]) hx hb dX4_greatestSum_1 rfl hl (by decide) rfl (fun ls hl => ?_)
  refine lv_iconst (v := (0 : Int32)) hx hb dX4_greatestSum_2 (by decide) ?_
  refine lv_istore_n (lv' := [(2, .int (0 : Int32)), (1, .int (0 : Int32)), (0, .ref (adr a0))]) hx hb dX4_greatestSum_3 rfl hl (by decide) rfl (fun ls hl => ?_)
  refine sm_lp (b := fun rc q => m_X4_greatestSum_b4 a0 M rc q.1 q.2) (P := fun (q : Int32 × Int32) H locs ls => smP D cA 1 adr M H ∧ va_S (smA 1 adr) s.heap H locs ∧ lv_has ls 3 [(0, .ref (adr a0)), (1, .int q.1), (2, .int q.2)]) (pc := 4) ?_ _ _ _ _ _ h ⟨hP, hS, lv_sub hl [2, 1, 0] rfl⟩
  intro rc4_798 ih4_799 q H locs ls h hI
  obtain ⟨x1_4_796, x2_4_797⟩ := q
  obtain ⟨hP, hS, hl⟩ := hI
  have hP : smP D cA 1 adr M H := hP
  have hl : lv_has ls 3 [(0, .ref (adr a0)), (1, .int x1_4_796), (2, .int x2_4_797)] := hl
  have h : m_X4_greatestSum_b4 a0 M rc4_798 x1_4_796 x2_4_797 = some _ := h
  unfold m_X4_greatestSum_b4 at h
  refine lv_iload_n hx hb dX4_greatestSum_4 rfl (lv_at hl 2 rfl) ?_
  refine lv_aload_n hx hb dX4_greatestSum_5 rfl (lv_at hl 0 rfl) ?_
  refine sm_get (ci := 4) (C := RX4) (T := TX4) (N := 4) (v := .int (M a0 0)) hx hb hts hin4 hown hE hP ha0 rfl rfl 0 (by decide) (hts (.fieldLink RX4 23 "OrderMover$Members" "howMany" "I") (by decide +kernel)) (fun _ h9 => h9) rfl dX4_greatestSum_6 ?_
  refine lv_icmp_ge (tgt := 36) hx hb dX4_greatestSum_9 (by decide) (fun c9_800 => ?_) (fun c9_800 => ?_)
  · rw [if_pos c9_800] at h
    refine lv_iload_n hx hb dX4_greatestSum_36 rfl (lv_at hl 1 rfl) ?_
    cases h
    exact sm_iret hx hb hr hlocks hP hS dX4_greatestSum_37
  · rw [if_neg c9_800] at h
    refine lv_iload_n hx hb dX4_greatestSum_12 rfl (lv_at hl 1 rfl) ?_
    refine lv_aload_n hx hb dX4_greatestSum_13 rfl (lv_at hl 0 rfl) ?_
    refine sm_get (ci := 4) (C := RX4) (T := TX4) (N := 4) (v := .ref (adr (a0 + 1))) hx hb hts hin4 hown hE hP ha0 rfl rfl 1 (by decide) (hts (.fieldLink RX4 9 "OrderMover$Members" "xs" "[I") (by decide +kernel)) (fun _ h9 => h9) rfl dX4_greatestSum_14 ?_
    refine lv_iload_n hx hb dX4_greatestSum_17 rfl (lv_at hl 2 rfl) ?_
    obtain ⟨c18_801, h⟩ := sm_ck h
    refine sm_iald hx hb hE hP (t4_1 ha0) c18_801 dX4_greatestSum_18 ?_
    refine lv_aload_n hx hb dX4_greatestSum_19 rfl (lv_at hl 0 rfl) ?_
    refine sm_get (ci := 4) (C := RX4) (T := TX4) (N := 4) (v := .ref (adr (a0 + 2))) hx hb hts hin4 hown hE hP ha0 rfl rfl 2 (by decide) (hts (.fieldLink RX4 15 "OrderMover$Members" "ys" "[I") (by decide +kernel)) (fun _ h9 => h9) rfl dX4_greatestSum_20 ?_
    refine lv_iload_n hx hb dX4_greatestSum_23 rfl (lv_at hl 2 rfl) ?_
    obtain ⟨c24_802, h⟩ := sm_ck h
    refine sm_iald hx hb hE hP (t4_2 ha0) c24_802 dX4_greatestSum_24 ?_
    refine lv_iadd hx hb dX4_greatestSum_25 ?_
    refine va_mmax hx hb (by rw [hml, hl.1]) hown (hts (.methodLink RX4 35 Lib.Math.max.name) (by decide +kernel)) (hts (.static Lib.Math.max.name) (by decide +kernel)) (hts (.initialized "java/lang/Math") (by decide +kernel)) (hts (.code Lib.Math.max.name Lib.Math.max.code 2 (some .int)) (by decide +kernel)) (Nat.le_of_ble_eq_true rfl) (Nat.le_of_ble_eq_true rfl) (Nat.zero_le _) (Nat.zero_le _) dX4_greatestSum_26 ?_
    refine lv_istore_n (lv' := [(1, .int (if x1_4_796 < ((M (a0 + 1) (x2_4_797).toNatClampNeg) + (M (a0 + 2) (x2_4_797).toNatClampNeg)) then ((M (a0 + 1) (x2_4_797).toNatClampNeg) + (M (a0 + 2) (x2_4_797).toNatClampNeg)) else x1_4_796)), (0, .ref (adr a0)), (2, .int x2_4_797)]) hx hb dX4_greatestSum_29 rfl hl (by decide) rfl (fun ls hl => ?_)
    refine lv_iinc (v := (x2_4_797 + (1 : Int32))) (lv' := [(2, .int (x2_4_797 + (1 : Int32))), (1, .int (if x1_4_796 < ((M (a0 + 1) (x2_4_797).toNatClampNeg) + (M (a0 + 2) (x2_4_797).toNatClampNeg)) then ((M (a0 + 1) (x2_4_797).toNatClampNeg) + (M (a0 + 2) (x2_4_797).toNatClampNeg)) else x1_4_796)), (0, .ref (adr a0))]) hx hb dX4_greatestSum_30 hl (k := 2) rfl (congrArg (fun z => x2_4_797 + z) (by decide)) (by decide) rfl (fun ls hl => ?_)
    refine lv_goto (tgt := 4) hx hb dX4_greatestSum_33 (by decide) ?_
    exact ih4_799 ((if x1_4_796 < ((M (a0 + 1) (x2_4_797).toNatClampNeg) + (M (a0 + 2) (x2_4_797).toNatClampNeg)) then ((M (a0 + 1) (x2_4_797).toNatClampNeg) + (M (a0 + 2) (x2_4_797).toNatClampNeg)) else x1_4_796), (x2_4_797 + (1 : Int32))) _ _ _ h ⟨hP, hS, lv_sub hl [2, 1, 0] rfl⟩
set_option maxHeartbeats 4000000 in
set_option maxRecDepth 100000 in
theorem k_X4_hasTail (l : Launch) (D : va_G) (cA : Nat → ClassId) (adr : Nat → Nat) (hJ : smJ 1 adr) (a0 : Nat) (x1 : Int32) (a2 : Nat) (ha0 : smT 1 a0 4) (ha2 : smT 1 a2 20) (M : smM) (v1 : Int32) (h : m_X4_hasTail a0 x1 a2 M = some v1) : Met l yX4_hasTail wsX4_hasTail ({ frames := 0, cells := 0, slots := 0, locals := 0 }) (smPc D cA 1 adr M [.ref (adr a0), .int x1, .ref (adr a2)]) (smQi D cA 1 adr M v1) 0 0 (smA 1 adr) := by
  refine Met.ofW (cc := cX4_hasTail) (maxL := 4) (ret := (some .boolean)) (by decide) rfl ?_
  intro p e s m args below meth c s₁ B hml hv
  obtain ⟨rfl, hE, hP⟩ := hv
  have hx := B.exec
  have hb := B.bytes
  have hr := B.returns
  have hts := atoms_spec (ws := wsX4_hasTail) B.pre
  have hown : s.vm.findClass RX4 = some m.cls := findClass_of_methodNamed B.named
  have hlocks := B.notSynchronized
  have hS : va_S (smA 1 adr) s.heap s.heap [] := va_S.rf
  have hP : smP D cA 1 adr M s.heap := hP
  have hl := lv_entry ([.ref (adr a0), .int x1, .ref (adr a2)]) (n := 4) (Nat.le_of_ble_eq_true rfl)
  rw [lg_entry_eq]
  generalize (lg_sl ([.ref (adr a0), .int x1, .ref (adr a2)]) ++ List.replicate (4 - (lg_sl ([.ref (adr a0), .int x1, .ref (adr a2)])).length) Slot.unset).toArray = ls at hl ⊢
  have hl : lv_has ls 4 [(0, .ref (adr a0)), (1, .int x1), (2, .ref (adr a2))] := hl
  unfold m_X4_hasTail at h
  have hin4 : ∀ w ∈ u_ws RX4 TX4 4, w ∈ wsX4_hasTail := by decide +kernel
  refine lv_iconst (v := (0 : Int32)) hx hb dX4_hasTail_0 (by decide) ?_
  refine lv_istore_n (lv' := [(3, .int (0 : Int32)), (0, .ref (adr a0)), (1, .int x1), (2, .ref (adr a2))]) hx hb dX4_hasTail_1 rfl hl (by decide) rfl (fun ls hl => ?_)
  refine sm_lp (b := fun rc q => m_X4_hasTail_b2 a0 x1 a2 M rc q) (P := fun (q : Int32) H locs ls => smP D cA 1 adr M H ∧ va_S (smA 1 adr) s.heap H locs ∧ lv_has ls 4 [(0, .ref (adr a0)), (1, .int x1), (2, .ref (adr a2)), (3, .int q)]) (pc := 2) ?_ _ _ _ _ _ h ⟨hP, hS, lv_sub hl [1, 2, 3, 0] rfl⟩
  intro rc2_804 ih2_805 q H locs ls h hI
  obtain ⟨x3_2_803, hq⟩ : ∃ y, y = q := ⟨_, rfl⟩; subst hq
  obtain ⟨hP, hS, hl⟩ := hI
  have hP : smP D cA 1 adr M H := hP
  have hl : lv_has ls 4 [(0, .ref (adr a0)), (1, .int x1), (2, .ref (adr a2)), (3, .int x3_2_803)] := hl
  have h : m_X4_hasTail_b2 a0 x1 a2 M rc2_804 x3_2_803 = some _ := h
  unfold m_X4_hasTail_b2 at h
  refine lv_iload_n hx hb dX4_hasTail_2 rfl (lv_at hl 3 rfl) ?_
  refine lv_bipush (v := (9 : Int32)) hx hb dX4_hasTail_3 (by decide) ?_
  refine lv_icmp_ge (tgt := 30) hx hb dX4_hasTail_5 (by decide) (fun c5_806 => ?_) (fun c5_806 => ?_)
  · rw [if_pos c5_806] at h
    refine lv_iconst (v := (1 : Int32)) hx hb dX4_hasTail_30 (by decide) ?_
    cases h
    exact sm_zret (by first | rfl | decide) hx hb hr hlocks hP hS dX4_hasTail_31
  · rw [if_neg c5_806] at h
    refine lv_aload_n hx hb dX4_hasTail_8 rfl (lv_at hl 0 rfl) ?_
    refine sm_get (ci := 4) (C := RX4) (T := TX4) (N := 4) (v := .ref (adr (a0 + 3))) hx hb hts hin4 hown hE hP ha0 rfl rfl 3 (by decide) (hts (.fieldLink RX4 20 "OrderMover$Members" "tails" "[[I") (by decide +kernel)) (fun _ h9 => h9) rfl dX4_hasTail_9 ?_
    refine lv_iload_n hx hb dX4_hasTail_12 rfl (lv_at hl 1 rfl) ?_
    obtain ⟨c13_807, h⟩ := sm_ck h
    refine sm_aald22 hx hb hE hP (t4_3 ha0) c13_807 dX4_hasTail_13 ?_
    refine lv_iload_n hx hb dX4_hasTail_14 rfl (lv_at hl 3 rfl) ?_
    obtain ⟨c15_808, h⟩ := sm_ck h
    refine sm_iald hx hb hE hP (te22 (t4_3 ha0) c13_807) c15_808 dX4_hasTail_15 ?_
    refine lv_aload_n hx hb dX4_hasTail_16 rfl (lv_at hl 2 rfl) ?_
    refine lv_iload_n hx hb dX4_hasTail_17 rfl (lv_at hl 3 rfl) ?_
    obtain ⟨c18_809, h⟩ := sm_ck h
    refine sm_iald hx hb hE hP ha2 c18_809 dX4_hasTail_18 ?_
    refine lv_icmp_eq (tgt := 24) hx hb dX4_hasTail_19 (by decide) (fun c19_810 => ?_) (fun c19_810 => ?_)
    · rw [if_pos c19_810] at h
      refine lv_iinc (v := (x3_2_803 + (1 : Int32))) (lv' := [(3, .int (x3_2_803 + (1 : Int32))), (0, .ref (adr a0)), (1, .int x1), (2, .ref (adr a2))]) hx hb dX4_hasTail_24 hl (k := 3) rfl (congrArg (fun z => x3_2_803 + z) (by decide)) (by decide) rfl (fun ls hl => ?_)
      refine lv_goto (tgt := 2) hx hb dX4_hasTail_27 (by decide) ?_
      exact ih2_805 (x3_2_803 + (1 : Int32)) _ _ _ h ⟨hP, hS, lv_sub hl [1, 2, 3, 0] rfl⟩
    · rw [if_neg c19_810] at h
      refine lv_iconst (v := (0 : Int32)) hx hb dX4_hasTail_22 (by decide) ?_
      cases h
      exact sm_zret (by first | rfl | decide) hx hb hr hlocks hP hS dX4_hasTail_23
set_option maxHeartbeats 4000000 in
set_option maxRecDepth 100000 in
theorem k_X4_isAs (l : Launch) (D : va_G) (cA : Nat → ClassId) (adr : Nat → Nat) (hJ : smJ 1 adr) (a0 : Nat) (a1 : Nat) (ha0 : smT 1 a0 4) (ha1 : smT 1 a1 4) (M : smM) (v1 : Int32) (h : m_X4_isAs a0 a1 M = some v1) : Met l yX4_isAs wsX4_isAs ({ frames := 1, cells := 0, slots := 0, locals := 23 }) (smPc D cA 1 adr M [.ref (adr a0), .ref (adr a1)]) (smQi D cA 1 adr M v1) 0 0 (smA 1 adr) := by
  refine Met.ofW (cc := cX4_isAs) (maxL := 3) (ret := (some .boolean)) (by decide) rfl ?_
  intro p e s m args below meth c s₁ B hml hv
  obtain ⟨rfl, hE, hP⟩ := hv
  have hx := B.exec
  have hb := B.bytes
  have hr := B.returns
  have hts := atoms_spec (ws := wsX4_isAs) B.pre
  have hown : s.vm.findClass RX4 = some m.cls := findClass_of_methodNamed B.named
  have hlocks := B.notSynchronized
  have hS : va_S (smA 1 adr) s.heap s.heap [] := va_S.rf
  have hP : smP D cA 1 adr M s.heap := hP
  have hl := lv_entry ([.ref (adr a0), .ref (adr a1)]) (n := 3) (Nat.le_of_ble_eq_true rfl)
  rw [lg_entry_eq]
  generalize (lg_sl ([.ref (adr a0), .ref (adr a1)]) ++ List.replicate (3 - (lg_sl ([.ref (adr a0), .ref (adr a1)])).length) Slot.unset).toArray = ls at hl ⊢
  have hl : lv_has ls 3 [(0, .ref (adr a0)), (1, .ref (adr a1))] := hl
  unfold m_X4_isAs at h
  have hin4 : ∀ w ∈ u_ws RX4 TX4 4, w ∈ wsX4_isAs := by decide +kernel
  refine lv_aload_n hx hb dX4_isAs_0 rfl (lv_at hl 0 rfl) ?_
  refine sm_get (ci := 4) (C := RX4) (T := TX4) (N := 4) (v := .int (M a0 0)) hx hb hts hin4 hown hE hP ha0 rfl rfl 0 (by decide) (hts (.fieldLink RX4 23 "OrderMover$Members" "howMany" "I") (by decide +kernel)) (fun _ h9 => h9) rfl dX4_isAs_1 ?_
  refine lv_aload_n hx hb dX4_isAs_4 rfl (lv_at hl 1 rfl) ?_
  refine sm_get (ci := 4) (C := RX4) (T := TX4) (N := 4) (v := .int (M a1 0)) hx hb hts hin4 hown hE hP ha1 rfl rfl 0 (by decide) (hts (.fieldLink RX4 23 "OrderMover$Members" "howMany" "I") (by decide +kernel)) (fun _ h9 => h9) rfl dX4_isAs_5 ?_
  refine lv_icmp_eq (tgt := 13) hx hb dX4_isAs_8 (by decide) (fun c8_811 => ?_) (fun c8_811 => ?_)
  · rw [if_pos c8_811] at h
    refine lv_iconst (v := (0 : Int32)) hx hb dX4_isAs_13 (by decide) ?_
    refine lv_istore_n (lv' := [(2, .int (0 : Int32)), (0, .ref (adr a0)), (1, .ref (adr a1))]) hx hb dX4_isAs_14 rfl hl (by decide) rfl (fun ls hl => ?_)
    refine sm_lp (b := fun rc q => m_X4_isAs_b15 a0 a1 M rc q) (P := fun (q : Int32) H locs ls => smP D cA 1 adr M H ∧ va_S (smA 1 adr) s.heap H locs ∧ lv_has ls 3 [(0, .ref (adr a0)), (1, .ref (adr a1)), (2, .int q)]) (pc := 15) ?_ _ _ _ _ _ h ⟨hP, hS, lv_sub hl [1, 2, 0] rfl⟩
    intro rc15_813 ih15_814 q H locs ls h hI
    obtain ⟨x2_15_812, hq⟩ : ∃ y, y = q := ⟨_, rfl⟩; subst hq
    obtain ⟨hP, hS, hl⟩ := hI
    have hP : smP D cA 1 adr M H := hP
    have hl : lv_has ls 3 [(0, .ref (adr a0)), (1, .ref (adr a1)), (2, .int x2_15_812)] := hl
    have h : m_X4_isAs_b15 a0 a1 M rc15_813 x2_15_812 = some _ := h
    unfold m_X4_isAs_b15 at h
    refine lv_iload_n hx hb dX4_isAs_15 rfl (lv_at hl 2 rfl) ?_
    refine lv_aload_n hx hb dX4_isAs_16 rfl (lv_at hl 0 rfl) ?_
    refine sm_get (ci := 4) (C := RX4) (T := TX4) (N := 4) (v := .int (M a0 0)) hx hb hts hin4 hown hE hP ha0 rfl rfl 0 (by decide) (hts (.fieldLink RX4 23 "OrderMover$Members" "howMany" "I") (by decide +kernel)) (fun _ h9 => h9) rfl dX4_isAs_17 ?_
    refine lv_icmp_ge (tgt := 75) hx hb dX4_isAs_20 (by decide) (fun c20_815 => ?_) (fun c20_815 => ?_)
    · rw [if_pos c20_815] at h
      refine lv_iconst (v := (1 : Int32)) hx hb dX4_isAs_75 (by decide) ?_
      cases h
      exact sm_zret (by first | rfl | decide) hx hb hr hlocks hP hS dX4_isAs_76
    · rw [if_neg c20_815] at h
      refine lv_aload_n hx hb dX4_isAs_23 rfl (lv_at hl 0 rfl) ?_
      refine sm_get (ci := 4) (C := RX4) (T := TX4) (N := 4) (v := .ref (adr (a0 + 1))) hx hb hts hin4 hown hE hP ha0 rfl rfl 1 (by decide) (hts (.fieldLink RX4 9 "OrderMover$Members" "xs" "[I") (by decide +kernel)) (fun _ h9 => h9) rfl dX4_isAs_24 ?_
      refine lv_iload_n hx hb dX4_isAs_27 rfl (lv_at hl 2 rfl) ?_
      obtain ⟨c28_816, h⟩ := sm_ck h
      refine sm_iald hx hb hE hP (t4_1 ha0) c28_816 dX4_isAs_28 ?_
      refine lv_aload_n hx hb dX4_isAs_29 rfl (lv_at hl 1 rfl) ?_
      refine sm_get (ci := 4) (C := RX4) (T := TX4) (N := 4) (v := .ref (adr (a1 + 1))) hx hb hts hin4 hown hE hP ha1 rfl rfl 1 (by decide) (hts (.fieldLink RX4 9 "OrderMover$Members" "xs" "[I") (by decide +kernel)) (fun _ h9 => h9) rfl dX4_isAs_30 ?_
      refine lv_iload_n hx hb dX4_isAs_33 rfl (lv_at hl 2 rfl) ?_
      obtain ⟨c34_817, h⟩ := sm_ck h
      refine sm_iald hx hb hE hP (t4_1 ha1) c34_817 dX4_isAs_34 ?_
      refine lv_icmp_ne (tgt := 67) hx hb dX4_isAs_35 (by decide) (fun c35_818 => ?_) (fun c35_818 => ?_)
      · rw [if_neg c35_818] at h
        refine lv_iconst (v := (0 : Int32)) hx hb dX4_isAs_67 (by decide) ?_
        cases h
        exact sm_zret (by first | rfl | decide) hx hb hr hlocks hP hS dX4_isAs_68
      · rw [if_pos c35_818] at h
        refine lv_aload_n hx hb dX4_isAs_38 rfl (lv_at hl 0 rfl) ?_
        refine sm_get (ci := 4) (C := RX4) (T := TX4) (N := 4) (v := .ref (adr (a0 + 2))) hx hb hts hin4 hown hE hP ha0 rfl rfl 2 (by decide) (hts (.fieldLink RX4 15 "OrderMover$Members" "ys" "[I") (by decide +kernel)) (fun _ h9 => h9) rfl dX4_isAs_39 ?_
        refine lv_iload_n hx hb dX4_isAs_42 rfl (lv_at hl 2 rfl) ?_
        obtain ⟨c43_819, h⟩ := sm_ck h
        refine sm_iald hx hb hE hP (t4_2 ha0) c43_819 dX4_isAs_43 ?_
        refine lv_aload_n hx hb dX4_isAs_44 rfl (lv_at hl 1 rfl) ?_
        refine sm_get (ci := 4) (C := RX4) (T := TX4) (N := 4) (v := .ref (adr (a1 + 2))) hx hb hts hin4 hown hE hP ha1 rfl rfl 2 (by decide) (hts (.fieldLink RX4 15 "OrderMover$Members" "ys" "[I") (by decide +kernel)) (fun _ h9 => h9) rfl dX4_isAs_45 ?_
        refine lv_iload_n hx hb dX4_isAs_48 rfl (lv_at hl 2 rfl) ?_
        obtain ⟨c49_820, h⟩ := sm_ck h
        refine sm_iald hx hb hE hP (t4_2 ha1) c49_820 dX4_isAs_49 ?_
        refine lv_icmp_ne (tgt := 67) hx hb dX4_isAs_50 (by decide) (fun c50_821 => ?_) (fun c50_821 => ?_)
        · rw [if_neg c50_821] at h
          refine lv_iconst (v := (0 : Int32)) hx hb dX4_isAs_67 (by decide) ?_
          cases h
          exact sm_zret (by first | rfl | decide) hx hb hr hlocks hP hS dX4_isAs_68
        · rw [if_pos c50_821] at h
          refine lv_aload_n hx hb dX4_isAs_53 rfl (lv_at hl 0 rfl) ?_
          refine lv_iload_n hx hb dX4_isAs_54 rfl (lv_at hl 2 rfl) ?_
          refine lv_aload_n hx hb dX4_isAs_55 rfl (lv_at hl 1 rfl) ?_
          refine sm_get (ci := 4) (C := RX4) (T := TX4) (N := 4) (v := .ref (adr (a1 + 3))) hx hb hts hin4 hown hE hP ha1 rfl rfl 3 (by decide) (hts (.fieldLink RX4 20 "OrderMover$Members" "tails" "[[I") (by decide +kernel)) (fun _ h9 => h9) rfl dX4_isAs_56 ?_
          refine lv_iload_n hx hb dX4_isAs_59 rfl (lv_at hl 2 rfl) ?_
          obtain ⟨c60_822, h⟩ := sm_ck h
          refine sm_aald22 hx hb hE hP (t4_3 ha1) c60_822 dX4_isAs_60 ?_
          obtain ⟨v61_823, hc61_825, h⟩ := sm_bd h
          refine sm_ci (va_runV (As := [.int x2_15_812, .ref (adr ((a1 + 3) + 1 + (x2_15_812).toNatClampNeg))]) (rest := []) ⟨hx, hb, hml, hown, hts⟩ (k_X4_hasTail l D cA adr hJ a0 x2_15_812 ((a1 + 3) + 1 + (x2_15_812).toNatClampNeg) ha0 (te22 (t4_3 ha1) c60_822) M v61_823 hc61_825) (cwV 2 hts gX4_isAs_X4_hasTail rfl rfl rfl (by decide +kernel) ⟨Nat.le_of_ble_eq_true rfl, Nat.le_of_ble_eq_true rfl⟩) ⟨smPc_bl, smRv hE hP ha0 rfl (ci := 4) (q := (RX4, TX4, 4)) rfl, smPc_in [.ref (adr a0), .int x2_15_812, .ref (adr ((a1 + 3) + 1 + (x2_15_812).toNatClampNeg))] hE hP⟩ rfl rfl hl.1 rfl (lv_room (Nat.le_of_ble_eq_true rfl)) dX4_isAs_61 ⟨Nat.zero_le _, Nat.zero_le _⟩) hS (fun H locs hP hS => ?_)
          refine lv_if_ne (tgt := 69) hx hb dX4_isAs_64 (by decide) (fun c64_826 => ?_) (fun c64_826 => ?_)
          · rw [if_neg c64_826] at h
            refine lv_iinc (v := (x2_15_812 + (1 : Int32))) (lv' := [(2, .int (x2_15_812 + (1 : Int32))), (0, .ref (adr a0)), (1, .ref (adr a1))]) hx hb dX4_isAs_69 hl (k := 2) rfl (congrArg (fun z => x2_15_812 + z) (by decide)) (by decide) rfl (fun ls hl => ?_)
            refine lv_goto (tgt := 15) hx hb dX4_isAs_72 (by decide) ?_
            exact ih15_814 (x2_15_812 + (1 : Int32)) _ _ _ h ⟨hP, hS, lv_sub hl [1, 2, 0] rfl⟩
          · rw [if_pos c64_826] at h
            refine lv_iconst (v := (0 : Int32)) hx hb dX4_isAs_67 (by decide) ?_
            cases h
            exact sm_zret (by first | rfl | decide) hx hb hr hlocks hP hS dX4_isAs_68
  · rw [if_neg c8_811] at h
    refine lv_iconst (v := (0 : Int32)) hx hb dX4_isAs_11 (by decide) ?_
    cases h
    exact sm_zret (by first | rfl | decide) hx hb hr hlocks hP hS dX4_isAs_12
set_option maxHeartbeats 4000000 in
set_option maxRecDepth 100000 in
theorem k_X4_moveToField (l : Launch) (D : va_G) (cA : Nat → ClassId) (adr : Nat → Nat) (hJ : smJ 1 adr) (a0 : Nat) (x1 : Int32) (ha0 : smT 1 a0 4) (M : smM) (M1 : smM) (h : m_X4_moveToField a0 x1 M = some M1) : Met l yX4_moveToField wsX4_moveToField ({ frames := 1, cells := 0, slots := 0, locals := 22 }) (smPc D cA 1 adr M [.ref (adr a0), .int x1]) (smQv D cA 1 adr M1) 0 0 (smA 1 adr) := by
  refine Met.ofW (cc := cX4_moveToField) (maxL := 4) (ret := none) (by decide) rfl ?_
  intro p e s m args below meth c s₁ B hml hv
  obtain ⟨rfl, hE, hP⟩ := hv
  have hx := B.exec
  have hb := B.bytes
  have hr := B.returns
  have hts := atoms_spec (ws := wsX4_moveToField) B.pre
  have hown : s.vm.findClass RX4 = some m.cls := findClass_of_methodNamed B.named
  have hlocks := B.notSynchronized
  have hS : va_S (smA 1 adr) s.heap s.heap [] := va_S.rf
  have hP : smP D cA 1 adr M s.heap := hP
  have hl := lv_entry ([.ref (adr a0), .int x1]) (n := 4) (Nat.le_of_ble_eq_true rfl)
  rw [lg_entry_eq]
  generalize (lg_sl ([.ref (adr a0), .int x1]) ++ List.replicate (4 - (lg_sl ([.ref (adr a0), .int x1])).length) Slot.unset).toArray = ls at hl ⊢
  have hl : lv_has ls 4 [(0, .ref (adr a0)), (1, .int x1)] := hl
  unfold m_X4_moveToField at h
  have hin4 : ∀ w ∈ u_ws RX4 TX4 4, w ∈ wsX4_moveToField := by decide +kernel
  refine lv_iconst (v := (0 : Int32)) hx hb dX4_moveToField_0 (by decide) ?_
  refine lv_istore_n (lv' := [(2, .int (0 : Int32)), (0, .ref (adr a0)), (1, .int x1)]) hx hb dX4_moveToField_1 rfl hl (by decide) rfl (fun ls hl => ?_)
  refine sm_lp (b := fun rc q => m_X4_moveToField_b2 a0 x1 rc q.1 q.2) (P := fun (q : Int32 × smM) H locs ls => smP D cA 1 adr q.2 H ∧ va_S (smA 1 adr) s.heap H locs ∧ lv_has ls 4 [(0, .ref (adr a0)), (1, .int x1), (2, .int q.1)]) (pc := 2) ?_ _ _ _ _ _ h ⟨hP, hS, lv_sub hl [1, 2, 0] rfl⟩
  intro rc2_829 ih2_830 q H locs ls h hI
  obtain ⟨x2_2_827, M2_828⟩ := q
  obtain ⟨hP, hS, hl⟩ := hI
  have hP : smP D cA 1 adr M2_828 H := hP
  have hl : lv_has ls 4 [(0, .ref (adr a0)), (1, .int x1), (2, .int x2_2_827)] := hl
  have h : m_X4_moveToField_b2 a0 x1 rc2_829 x2_2_827 M2_828 = some _ := h
  unfold m_X4_moveToField_b2 at h
  refine lv_iload_n hx hb dX4_moveToField_2 rfl (lv_at hl 2 rfl) ?_
  refine lv_aload_n hx hb dX4_moveToField_3 rfl (lv_at hl 0 rfl) ?_
  refine sm_get (ci := 4) (C := RX4) (T := TX4) (N := 4) (v := .int (M2_828 a0 0)) hx hb hts hin4 hown hE hP ha0 rfl rfl 0 (by decide) (hts (.fieldLink RX4 23 "OrderMover$Members" "howMany" "I") (by decide +kernel)) (fun _ h9 => h9) rfl dX4_moveToField_4 ?_
  refine lv_icmp_ge (tgt := 50) hx hb dX4_moveToField_7 (by decide) (fun c7_831 => ?_) (fun c7_831 => ?_)
  · rw [if_pos c7_831] at h
    cases h
    exact sm_vret hx hb hr hlocks hP hS dX4_moveToField_50
  · rw [if_neg c7_831] at h
    refine lv_iconst (v := (0 : Int32)) hx hb dX4_moveToField_10 (by decide) ?_
    refine lv_istore_n (lv' := [(3, .int (0 : Int32)), (0, .ref (adr a0)), (1, .int x1), (2, .int x2_2_827)]) hx hb dX4_moveToField_11 rfl hl (by decide) rfl (fun ls hl => ?_)
    refine sm_lp (b := fun rc q => m_X4_moveToField_b12 a0 x1 x2_2_827 rc2_829 rc q.1 q.2) (P := fun (q : Int32 × smM) H locs ls => smP D cA 1 adr q.2 H ∧ va_S (smA 1 adr) s.heap H locs ∧ lv_has ls 4 [(0, .ref (adr a0)), (1, .int x1), (2, .int x2_2_827), (3, .int q.1)]) (pc := 12) ?_ _ _ _ _ _ h ⟨hP, hS, lv_sub hl [1, 2, 3, 0] rfl⟩
    intro rc12_834 ih12_835 q H locs ls h hI
    obtain ⟨x3_12_832, M12_833⟩ := q
    obtain ⟨hP, hS, hl⟩ := hI
    have hP : smP D cA 1 adr M12_833 H := hP
    have hl : lv_has ls 4 [(0, .ref (adr a0)), (1, .int x1), (2, .int x2_2_827), (3, .int x3_12_832)] := hl
    have h : m_X4_moveToField_b12 a0 x1 x2_2_827 rc2_829 rc12_834 x3_12_832 M12_833 = some _ := h
    unfold m_X4_moveToField_b12 at h
    refine lv_iload_n hx hb dX4_moveToField_12 rfl (lv_at hl 3 rfl) ?_
    refine lv_bipush (v := (9 : Int32)) hx hb dX4_moveToField_13 (by decide) ?_
    refine lv_icmp_ge (tgt := 44) hx hb dX4_moveToField_15 (by decide) (fun c15_836 => ?_) (fun c15_836 => ?_)
    · rw [if_pos c15_836] at h
      refine lv_iinc (v := (x2_2_827 + (1 : Int32))) (lv' := [(2, .int (x2_2_827 + (1 : Int32))), (0, .ref (adr a0)), (1, .int x1), (3, .int x3_12_832)]) hx hb dX4_moveToField_44 hl (k := 2) rfl (congrArg (fun z => x2_2_827 + z) (by decide)) (by decide) rfl (fun ls hl => ?_)
      refine lv_goto (tgt := 2) hx hb dX4_moveToField_47 (by decide) ?_
      exact ih2_830 ((x2_2_827 + (1 : Int32)), M12_833) _ _ _ h ⟨hP, hS, lv_sub hl [1, 2, 0] rfl⟩
    · rw [if_neg c15_836] at h
      refine lv_aload_n hx hb dX4_moveToField_18 rfl (lv_at hl 0 rfl) ?_
      refine sm_get (ci := 4) (C := RX4) (T := TX4) (N := 4) (v := .ref (adr (a0 + 3))) hx hb hts hin4 hown hE hP ha0 rfl rfl 3 (by decide) (hts (.fieldLink RX4 20 "OrderMover$Members" "tails" "[[I") (by decide +kernel)) (fun _ h9 => h9) rfl dX4_moveToField_19 ?_
      refine lv_iload_n hx hb dX4_moveToField_22 rfl (lv_at hl 2 rfl) ?_
      obtain ⟨c23_837, h⟩ := sm_ck h
      refine sm_aald22 hx hb hE hP (t4_3 ha0) c23_837 dX4_moveToField_23 ?_
      refine lv_iload_n hx hb dX4_moveToField_24 rfl (lv_at hl 3 rfl) ?_
      refine lv_aload_n hx hb dX4_moveToField_25 rfl (lv_at hl 0 rfl) ?_
      refine sm_get (ci := 4) (C := RX4) (T := TX4) (N := 4) (v := .ref (adr (a0 + 3))) hx hb hts hin4 hown hE hP ha0 rfl rfl 3 (by decide) (hts (.fieldLink RX4 20 "OrderMover$Members" "tails" "[[I") (by decide +kernel)) (fun _ h9 => h9) rfl dX4_moveToField_26 ?_
      refine lv_iload_n hx hb dX4_moveToField_29 rfl (lv_at hl 2 rfl) ?_
      obtain ⟨c30_838, h⟩ := sm_ck h
      refine sm_aald22 hx hb hE hP (t4_3 ha0) c30_838 dX4_moveToField_30 ?_
      refine lv_iload_n hx hb dX4_moveToField_31 rfl (lv_at hl 3 rfl) ?_
      obtain ⟨c32_839, h⟩ := sm_ck h
      refine sm_iald hx hb hE hP (te22 (t4_3 ha0) c30_838) c32_839 dX4_moveToField_32 ?_
      refine lv_iload_n hx hb dX4_moveToField_33 rfl (lv_at hl 1 rfl) ?_
      obtain ⟨v34_840, hc34_842, h⟩ := sm_bd h
      refine sm_ci (va_runSN (As := [.int (M12_833 ((a0 + 3) + 1 + (x2_2_827).toNatClampNeg) (x3_12_832).toNatClampNeg), .int x1]) (rest := [.int x3_12_832, .ref (adr ((a0 + 3) + 1 + (x2_2_827).toNatClampNeg))]) ⟨hx, hb, hml, hown, hts⟩ (k_X11_leftOver l D cA adr hJ (M12_833 ((a0 + 3) + 1 + (x2_2_827).toNatClampNeg) (x3_12_832).toNatClampNeg) x1  M12_833 v34_840 hc34_842) ⟨va_cnB (host := "OrderMover") 2 hts gX4_moveToField_X11_leftOver_n41 rfl rfl rfl (hE.2 (RX4, 41, yX11_leftOver, "OrderMover") (by decide +kernel)) (hts (.initialized RX11) (by decide +kernel)) (by decide +kernel) ⟨Nat.le_of_ble_eq_true rfl, Nat.le_of_ble_eq_true rfl⟩, hts (.static yX11_leftOver) (by decide +kernel), trivial⟩ ⟨smPc_bl, smPc_in [.int (M12_833 ((a0 + 3) + 1 + (x2_2_827).toNatClampNeg) (x3_12_832).toNatClampNeg), .int x1] hE hP⟩ rfl rfl hl.1 rfl (lv_room (Nat.le_of_ble_eq_true rfl)) dX4_moveToField_34 ⟨Nat.zero_le _, Nat.zero_le _⟩) hS (fun H locs hP hS => ?_)
      obtain ⟨c37_843, h⟩ := sm_ck h
      refine sm_iast hx hb hE hJ hP hS (te22 (t4_3 ha0) c23_837) c37_843 dX4_moveToField_37 (fun H locs hP hS => ?_)
      obtain ⟨M37_844, hM, h⟩ := sm_lt h
      rw [← hM] at hP; clear hM
      refine lv_iinc (v := (x3_12_832 + (1 : Int32))) (lv' := [(3, .int (x3_12_832 + (1 : Int32))), (0, .ref (adr a0)), (1, .int x1), (2, .int x2_2_827)]) hx hb dX4_moveToField_38 hl (k := 3) rfl (congrArg (fun z => x3_12_832 + z) (by decide)) (by decide) rfl (fun ls hl => ?_)
      refine lv_goto (tgt := 12) hx hb dX4_moveToField_41 (by decide) ?_
      exact ih12_835 ((x3_12_832 + (1 : Int32)), M37_844) _ _ _ h ⟨hP, hS, lv_sub hl [1, 2, 3, 0] rfl⟩
set_option maxHeartbeats 4000000 in
set_option maxRecDepth 100000 in
theorem k_X5_takeZerosAway (l : Launch) (D : va_G) (cA : Nat → ClassId) (adr : Nat → Nat) (hJ : smJ 1 adr) (a0 : Nat) (ha0 : smT 1 a0 5) (M : smM) (M1 : smM) (h : m_X5_takeZerosAway a0 M = some M1) : Met l yX5_takeZerosAway wsX5_takeZerosAway ({ frames := 0, cells := 0, slots := 0, locals := 0 }) (smPc D cA 1 adr M [.ref (adr a0)]) (smQv D cA 1 adr M1) 0 0 (smA 1 adr) := by
  refine Met.ofW (cc := cX5_takeZerosAway) (maxL := 3) (ret := none) (by decide) rfl ?_
  intro p e s m args below meth c s₁ B hml hv
  obtain ⟨rfl, hE, hP⟩ := hv
  have hx := B.exec
  have hb := B.bytes
  have hr := B.returns
  have hts := atoms_spec (ws := wsX5_takeZerosAway) B.pre
  have hown : s.vm.findClass RX5 = some m.cls := findClass_of_methodNamed B.named
  have hlocks := B.notSynchronized
  have hS : va_S (smA 1 adr) s.heap s.heap [] := va_S.rf
  have hP : smP D cA 1 adr M s.heap := hP
  have hl := lv_entry ([.ref (adr a0)]) (n := 3) (Nat.le_of_ble_eq_true rfl)
  rw [lg_entry_eq]
  generalize (lg_sl ([.ref (adr a0)]) ++ List.replicate (3 - (lg_sl ([.ref (adr a0)])).length) Slot.unset).toArray = ls at hl ⊢
  have hl : lv_has ls 3 [(0, .ref (adr a0))] := hl
  unfold m_X5_takeZerosAway at h
  have hin5 : ∀ w ∈ u_ws RX5 TX5 4, w ∈ wsX5_takeZerosAway := by decide +kernel
  refine lv_iconst (v := (0 : Int32)) hx hb dX5_takeZerosAway_0 (by decide) ?_
  refine lv_istore_n (lv' := [(1, .int (0 : Int32)), (0, .ref (adr a0))]) hx hb dX5_takeZerosAway_1 rfl hl (by decide) rfl (fun ls hl => ?_)
  refine lv_iconst (v := (0 : Int32)) hx hb dX5_takeZerosAway_2 (by decide) ?_
  refine lv_istore_n (lv' := [(2, .int (0 : Int32)), (1, .int (0 : Int32)), (0, .ref (adr a0))]) hx hb dX5_takeZerosAway_3 rfl hl (by decide) rfl (fun ls hl => ?_)
  refine sm_lp (b := fun rc q => m_X5_takeZerosAway_b4 a0 rc q.1 q.2.1 q.2.2) (P := fun (q : Int32 × Int32 × smM) H locs ls => smP D cA 1 adr q.2.2 H ∧ va_S (smA 1 adr) s.heap H locs ∧ lv_has ls 3 [(0, .ref (adr a0)), (1, .int q.1), (2, .int q.2.1)]) (pc := 4) ?_ _ _ _ _ _ h ⟨hP, hS, lv_sub hl [2, 1, 0] rfl⟩
  intro rc4_848 ih4_849 q H locs ls h hI
  obtain ⟨x1_4_845, x2_4_846, M4_847⟩ := q
  obtain ⟨hP, hS, hl⟩ := hI
  have hP : smP D cA 1 adr M4_847 H := hP
  have hl : lv_has ls 3 [(0, .ref (adr a0)), (1, .int x1_4_845), (2, .int x2_4_846)] := hl
  have h : m_X5_takeZerosAway_b4 a0 rc4_848 x1_4_845 x2_4_846 M4_847 = some _ := h
  unfold m_X5_takeZerosAway_b4 at h
  refine lv_iload_n hx hb dX5_takeZerosAway_4 rfl (lv_at hl 2 rfl) ?_
  refine lv_aload_n hx hb dX5_takeZerosAway_5 rfl (lv_at hl 0 rfl) ?_
  refine sm_get (ci := 5) (C := RX5) (T := TX5) (N := 4) (v := .int (M4_847 a0 0)) hx hb hts hin5 hown hE hP ha0 rfl rfl 0 (by decide) (hts (.fieldLink RX5 27 "OrderMover$Polynomial" "howMany" "I") (by decide +kernel)) (fun _ h9 => h9) rfl dX5_takeZerosAway_6 ?_
  refine lv_icmp_ge (tgt := 66) hx hb dX5_takeZerosAway_9 (by decide) (fun c9_850 => ?_) (fun c9_850 => ?_)
  · rw [if_pos c9_850] at h
    refine lv_aload_n hx hb dX5_takeZerosAway_66 rfl (lv_at hl 0 rfl) ?_
    refine lv_iload_n hx hb dX5_takeZerosAway_67 rfl (lv_at hl 1 rfl) ?_
    refine sm_put (ci := 5) (C := RX5) (T := TX5) (N := 4) (ty := .int) hx hb hts hin5 tyX5 tyX5_ok nmX5 hown hE hJ hP hS ha0 rfl rfl 0 (by decide) (hts (.fieldLink RX5 27 "OrderMover$Polynomial" "howMany" "I") (by decide +kernel)) (fun _ h9 => h9) rfl (by decide +kernel) rfl rfl (Nat.le_of_ble_eq_true rfl) rfl dX5_takeZerosAway_68 (fun H locs hP hS => ?_)
    obtain ⟨M68_851, hM, h⟩ := sm_lt h
    rw [← hM] at hP; clear hM
    cases h
    exact sm_vret hx hb hr hlocks hP hS dX5_takeZerosAway_71
  · rw [if_neg c9_850] at h
    refine lv_aload_n hx hb dX5_takeZerosAway_12 rfl (lv_at hl 0 rfl) ?_
    refine sm_get (ci := 5) (C := RX5) (T := TX5) (N := 4) (v := .ref (adr (a0 + 1))) hx hb hts hin5 hown hE hP ha0 rfl rfl 1 (by decide) (hts (.fieldLink RX5 15 "OrderMover$Polynomial" "numbers" "[I") (by decide +kernel)) (fun _ h9 => h9) rfl dX5_takeZerosAway_13 ?_
    refine lv_iload_n hx hb dX5_takeZerosAway_16 rfl (lv_at hl 2 rfl) ?_
    obtain ⟨c17_852, h⟩ := sm_ck h
    refine sm_iald hx hb hE hP (t5_1 ha0) c17_852 dX5_takeZerosAway_17 ?_
    refine lv_if_eq (tgt := 60) hx hb dX5_takeZerosAway_18 (by decide) (fun c18_853 => ?_) (fun c18_853 => ?_)
    · rw [if_pos c18_853] at h
      refine lv_iinc (v := (x2_4_846 + (1 : Int32))) (lv' := [(2, .int (x2_4_846 + (1 : Int32))), (0, .ref (adr a0)), (1, .int x1_4_845)]) hx hb dX5_takeZerosAway_60 hl (k := 2) rfl (congrArg (fun z => x2_4_846 + z) (by decide)) (by decide) rfl (fun ls hl => ?_)
      refine lv_goto (tgt := 4) hx hb dX5_takeZerosAway_63 (by decide) ?_
      exact ih4_849 (x1_4_845, (x2_4_846 + (1 : Int32)), M4_847) _ _ _ h ⟨hP, hS, lv_sub hl [1, 2, 0] rfl⟩
    · rw [if_neg c18_853] at h
      refine lv_aload_n hx hb dX5_takeZerosAway_21 rfl (lv_at hl 0 rfl) ?_
      refine sm_get (ci := 5) (C := RX5) (T := TX5) (N := 4) (v := .ref (adr (a0 + 1))) hx hb hts hin5 hown hE hP ha0 rfl rfl 1 (by decide) (hts (.fieldLink RX5 15 "OrderMover$Polynomial" "numbers" "[I") (by decide +kernel)) (fun _ h9 => h9) rfl dX5_takeZerosAway_22 ?_
      refine lv_iload_n hx hb dX5_takeZerosAway_25 rfl (lv_at hl 1 rfl) ?_
      refine lv_aload_n hx hb dX5_takeZerosAway_26 rfl (lv_at hl 0 rfl) ?_
      refine sm_get (ci := 5) (C := RX5) (T := TX5) (N := 4) (v := .ref (adr (a0 + 1))) hx hb hts hin5 hown hE hP ha0 rfl rfl 1 (by decide) (hts (.fieldLink RX5 15 "OrderMover$Polynomial" "numbers" "[I") (by decide +kernel)) (fun _ h9 => h9) rfl dX5_takeZerosAway_27 ?_
      refine lv_iload_n hx hb dX5_takeZerosAway_30 rfl (lv_at hl 2 rfl) ?_
      obtain ⟨c31_854, h⟩ := sm_ck h
      refine sm_iald hx hb hE hP (t5_1 ha0) c31_854 dX5_takeZerosAway_31 ?_
      obtain ⟨c32_855, h⟩ := sm_ck h
      refine sm_iast hx hb hE hJ hP hS (t5_1 ha0) c32_855 dX5_takeZerosAway_32 (fun H locs hP hS => ?_)
      obtain ⟨M32_856, hM, h⟩ := sm_lt h
      rw [← hM] at hP; clear hM
      refine lv_aload_n hx hb dX5_takeZerosAway_33 rfl (lv_at hl 0 rfl) ?_
      refine sm_get (ci := 5) (C := RX5) (T := TX5) (N := 4) (v := .ref (adr (a0 + 2))) hx hb hts hin5 hown hE hP ha0 rfl rfl 2 (by decide) (hts (.fieldLink RX5 21 "OrderMover$Polynomial" "xs" "[I") (by decide +kernel)) (fun _ h9 => h9) rfl dX5_takeZerosAway_34 ?_
      refine lv_iload_n hx hb dX5_takeZerosAway_37 rfl (lv_at hl 1 rfl) ?_
      refine lv_aload_n hx hb dX5_takeZerosAway_38 rfl (lv_at hl 0 rfl) ?_
      refine sm_get (ci := 5) (C := RX5) (T := TX5) (N := 4) (v := .ref (adr (a0 + 2))) hx hb hts hin5 hown hE hP ha0 rfl rfl 2 (by decide) (hts (.fieldLink RX5 21 "OrderMover$Polynomial" "xs" "[I") (by decide +kernel)) (fun _ h9 => h9) rfl dX5_takeZerosAway_39 ?_
      refine lv_iload_n hx hb dX5_takeZerosAway_42 rfl (lv_at hl 2 rfl) ?_
      obtain ⟨c43_857, h⟩ := sm_ck h
      refine sm_iald hx hb hE hP (t5_2 ha0) c43_857 dX5_takeZerosAway_43 ?_
      obtain ⟨c44_858, h⟩ := sm_ck h
      refine sm_iast hx hb hE hJ hP hS (t5_2 ha0) c44_858 dX5_takeZerosAway_44 (fun H locs hP hS => ?_)
      obtain ⟨M44_859, hM, h⟩ := sm_lt h
      rw [← hM] at hP; clear hM
      refine lv_aload_n hx hb dX5_takeZerosAway_45 rfl (lv_at hl 0 rfl) ?_
      refine sm_get (ci := 5) (C := RX5) (T := TX5) (N := 4) (v := .ref (adr (a0 + 3))) hx hb hts hin5 hown hE hP ha0 rfl rfl 3 (by decide) (hts (.fieldLink RX5 24 "OrderMover$Polynomial" "ys" "[I") (by decide +kernel)) (fun _ h9 => h9) rfl dX5_takeZerosAway_46 ?_
      refine lv_iload_n hx hb dX5_takeZerosAway_49 rfl (lv_at hl 1 rfl) ?_
      refine lv_aload_n hx hb dX5_takeZerosAway_50 rfl (lv_at hl 0 rfl) ?_
      refine sm_get (ci := 5) (C := RX5) (T := TX5) (N := 4) (v := .ref (adr (a0 + 3))) hx hb hts hin5 hown hE hP ha0 rfl rfl 3 (by decide) (hts (.fieldLink RX5 24 "OrderMover$Polynomial" "ys" "[I") (by decide +kernel)) (fun _ h9 => h9) rfl dX5_takeZerosAway_51 ?_
      refine lv_iload_n hx hb dX5_takeZerosAway_54 rfl (lv_at hl 2 rfl) ?_
      obtain ⟨c55_860, h⟩ := sm_ck h
      refine sm_iald hx hb hE hP (t5_3 ha0) c55_860 dX5_takeZerosAway_55 ?_
      obtain ⟨c56_861, h⟩ := sm_ck h
      refine sm_iast hx hb hE hJ hP hS (t5_3 ha0) c56_861 dX5_takeZerosAway_56 (fun H locs hP hS => ?_)
      obtain ⟨M56_862, hM, h⟩ := sm_lt h
      rw [← hM] at hP; clear hM
      refine lv_iinc (v := (x1_4_845 + (1 : Int32))) (lv' := [(1, .int (x1_4_845 + (1 : Int32))), (0, .ref (adr a0)), (2, .int x2_4_846)]) hx hb dX5_takeZerosAway_57 hl (k := 1) rfl (congrArg (fun z => x1_4_845 + z) (by decide)) (by decide) rfl (fun ls hl => ?_)
      refine lv_iinc (v := (x2_4_846 + (1 : Int32))) (lv' := [(2, .int (x2_4_846 + (1 : Int32))), (1, .int (x1_4_845 + (1 : Int32))), (0, .ref (adr a0))]) hx hb dX5_takeZerosAway_60 hl (k := 2) rfl (congrArg (fun z => x2_4_846 + z) (by decide)) (by decide) rfl (fun ls hl => ?_)
      refine lv_goto (tgt := 4) hx hb dX5_takeZerosAway_63 (by decide) ?_
      exact ih4_849 ((x1_4_845 + (1 : Int32)), (x2_4_846 + (1 : Int32)), M56_862) _ _ _ h ⟨hP, hS, lv_sub hl [2, 1, 0] rfl⟩
