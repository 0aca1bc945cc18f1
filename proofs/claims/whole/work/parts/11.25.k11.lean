set_option maxHeartbeats 4000000 in
set_option maxRecDepth 100000 in
theorem k_X11_least (l : Launch) (D : va_G) (cA : Nat → ClassId) (adr : Nat → Nat) (hJ : smJ 1 adr) (a0 : Nat) (x1 : Int32) (x2 : Int32) (ha0 : smT 1 a0 11) (M : smM) (v1 : Int32) (M1 : smM) (h : m_X11_least a0 x1 x2 M = some (v1, M1)) : Met l yX11_least wsX11_least ({ frames := 6, cells := 0, slots := 0, locals := 143 }) (smPc D cA 1 adr M [.ref (adr a0), .int x1, .int x2]) (smQi D cA 1 adr M1 v1) 0 0 (smA 1 adr) := by
  refine Met.ofW (cc := cX11_least) (maxL := 4) (ret := (some .int)) (by decide) rfl ?_
  intro p e s m args below meth c s₁ B hml hv
  obtain ⟨rfl, hE, hP⟩ := hv
  have hx := B.exec
  have hb := B.bytes
  have hr := B.returns
  have hts := atoms_spec (ws := wsX11_least) B.pre
  have hown : s.vm.findClass RX11 = some m.cls := findClass_of_methodNamed B.named
  have hlocks := B.notSynchronized
  have hS : va_S (smA 1 adr) s.heap s.heap [] := va_S.rf
  have hP : smP D cA 1 adr M s.heap := hP
  have hl := lv_entry ([.ref (adr a0), .int x1, .int x2]) (n := 4) (Nat.le_of_ble_eq_true rfl)
  rw [lg_entry_eq]
  generalize (lg_sl ([.ref (adr a0), .int x1, .int x2]) ++ List.replicate (4 - (lg_sl ([.ref (adr a0), .int x1, .int x2])).length) Slot.unset).toArray = ls at hl ⊢
  have hl : lv_has ls 4 [(0, .ref (adr a0)), (1, .int x1), (2, .int x2)] := hl
  unfold m_X11_least at h
  have hin2 : ∀ w ∈ u_ws RX2 TX2 9, w ∈ wsX11_least := by decide +kernel
  have hin3 : ∀ w ∈ u_ws RX3 TX3 7, w ∈ wsX11_least := by decide +kernel
  refine lv_iload_n hx hb dX11_least_0 rfl (lv_at hl 1 rfl) ?_
  obtain ⟨v1_1457, hc1_1459, h⟩ := sm_bd h
  refine sm_ci (va_runS (As := [.int x1]) (rest := []) ⟨hx, hb, hml, hown, hts⟩ (k_X11_isUnknown l D cA adr hJ x1  M v1_1457 hc1_1459) (va_cwS 1 hts gX11_least_X11_isUnknown rfl rfl rfl (by decide +kernel) ⟨Nat.le_of_ble_eq_true rfl, Nat.le_of_ble_eq_true rfl⟩) ⟨smPc_bl, smPc_in [.int x1] hE hP⟩ rfl rfl hl.1 rfl (lv_room (Nat.le_of_ble_eq_true rfl)) dX11_least_1 ⟨Nat.zero_le _, Nat.zero_le _⟩) hS (fun H locs hP hS => ?_)
  refine lv_if_eq (tgt := 12) hx hb dX11_least_4 (by decide) (fun c4_1460 => ?_) (fun c4_1460 => ?_)
  · rw [if_pos c4_1460] at h
    refine lv_iconst (v := (-1 : Int32)) hx hb dX11_least_12 (by decide) ?_
    cases h
    exact sm_iret hx hb hr hlocks hP hS dX11_least_13
  · rw [if_neg c4_1460] at h
    refine lv_iload_n hx hb dX11_least_7 rfl (lv_at hl 2 rfl) ?_
    refine lv_iconst (v := (-1 : Int32)) hx hb dX11_least_8 (by decide) ?_
    refine lv_icmp_ge (tgt := 14) hx hb dX11_least_9 (by decide) (fun c9_1461 => ?_) (fun c9_1461 => ?_)
    · rw [if_pos c9_1461] at h
      refine lv_aload_n hx hb dX11_least_14 rfl (lv_at hl 0 rfl) ?_
      obtain ⟨v15_1462, M15_1463, hc15_1464, h⟩ := sm_bd2 h
      refine sm_cr (va_runV (As := []) (rest := []) ⟨hx, hb, hml, hown, hts⟩ (k_X11_currentIdeal l D cA adr hJ a0 ha0 M v15_1462 M15_1463 hc15_1464) (cwV 0 hts gX11_least_X11_currentIdeal rfl rfl rfl (by decide +kernel) ⟨Nat.le_of_ble_eq_true rfl, Nat.le_of_ble_eq_true rfl⟩) ⟨smPc_bl, smRv hE hP ha0 rfl (ci := 11) (q := (RX11, TX11, 11)) rfl, smPc_in [.ref (adr a0)] hE hP⟩ rfl rfl hl.1 rfl (lv_room (Nat.le_of_ble_eq_true rfl)) dX11_least_15 ⟨Nat.zero_le _, Nat.zero_le _⟩) hS (fun H locs hk15_1465 hP hS => ?_)
      refine sm_get (ci := 2) (C := RX2) (T := TX2) (N := 9) (v := .ref (adr (v15_1462 + 40))) hx hb hts hin2 hown hE hP hk15_1465 rfl rfl 1 (by decide) (hts (.fieldLink RX11 231 "OrderMover$Ideal" "leasts" "[LOrderMover$Least;") (by decide +kernel)) (fun _ h9 => h9) rfl dX11_least_18 ?_
      refine lv_iload_n hx hb dX11_least_21 rfl (lv_at hl 1 rfl) ?_
      obtain ⟨c22_1466, h⟩ := sm_ck h
      refine sm_aald25 hx hb hE hP (t2_1 hk15_1465) c22_1466 dX11_least_22 ?_
      refine lv_astore_n (lv' := [(3, .ref (adr ((v15_1462 + 40) + 1 + 6 * (x1).toNatClampNeg))), (0, .ref (adr a0)), (1, .int x1), (2, .int x2)]) hx hb dX11_least_23 rfl hl (by decide) rfl (fun ls hl => ?_)
      refine lv_iload_n hx hb dX11_least_24 rfl (lv_at hl 3 rfl) ?_
      refine lv_aload_n hx hb dX11_least_25 rfl (lv_at hl 0 rfl) ?_
      refine sm_get (ci := 3) (C := RX3) (T := TX3) (N := 7) (v := .int (M15_1463 ((v15_1462 + 40) + 1 + 6 * (x1).toNatClampNeg) 0)) hx hb hts hin3 hown hE hP (te25 (t2_1 hk15_1465) c22_1466) rfl rfl 0 (by decide) (hts (.fieldLink RX11 235 "OrderMover$Least" "high" "I") (by decide +kernel)) (fun _ h9 => h9) rfl dX11_least_26 ?_
      refine lv_icmp_le (tgt := 34) hx hb dX11_least_29 (by decide) (fun c29_1467 => ?_) (fun c29_1467 => ?_)
      · rw [if_pos c29_1467] at h
        refine lv_iload_n hx hb dX11_least_34 rfl (lv_at hl 3 rfl) ?_
        refine lv_iconst (v := (-1 : Int32)) hx hb dX11_least_35 (by decide) ?_
        refine lv_icmp_ne (tgt := 46) hx hb dX11_least_36 (by decide) (fun c36_1468 => ?_) (fun c36_1468 => ?_)
        · rw [if_neg c36_1468] at h
          refine lv_aload_n hx hb dX11_least_46 rfl (lv_at hl 0 rfl) ?_
          refine sm_get (ci := 3) (C := RX3) (T := TX3) (N := 7) (v := .ref (adr (((v15_1462 + 40) + 1 + 6 * (x1).toNatClampNeg) + 1))) hx hb hts hin3 hown hE hP (te25 (t2_1 hk15_1465) c22_1466) rfl rfl 1 (by decide) (hts (.fieldLink RX11 240 "OrderMover$Least" "numbers" "[I") (by decide +kernel)) (fun _ h9 => h9) rfl dX11_least_47 ?_
          refine lv_iload_n hx hb dX11_least_50 rfl (lv_at hl 3 rfl) ?_
          obtain ⟨c51_1469, h⟩ := sm_ck h
          refine sm_iald hx hb hE hP (t3_1 (te25 (t2_1 hk15_1465) c22_1466)) c51_1469 dX11_least_51 ?_
          cases h
          exact sm_iret hx hb hr hlocks hP hS dX11_least_52
        · rw [if_pos c36_1468] at h
          refine lv_aload_n hx hb dX11_least_39 rfl (lv_at hl 0 rfl) ?_
          refine sm_get (ci := 3) (C := RX3) (T := TX3) (N := 7) (v := .int (M15_1463 ((v15_1462 + 40) + 1 + 6 * (x1).toNatClampNeg) 0)) hx hb hts hin3 hown hE hP (te25 (t2_1 hk15_1465) c22_1466) rfl rfl 0 (by decide) (hts (.fieldLink RX11 235 "OrderMover$Least" "high" "I") (by decide +kernel)) (fun _ h9 => h9) rfl dX11_least_40 ?_
          refine lv_goto (tgt := 52) hx hb dX11_least_43 (by decide) ?_
          cases h
          exact sm_iret hx hb hr hlocks hP hS dX11_least_52
      · rw [if_neg c29_1467] at h
        refine lv_iconst (v := (-1 : Int32)) hx hb dX11_least_32 (by decide) ?_
        cases h
        exact sm_iret hx hb hr hlocks hP hS dX11_least_33
    · rw [if_neg c9_1461] at h
      refine lv_iconst (v := (-1 : Int32)) hx hb dX11_least_12 (by decide) ?_
      cases h
      exact sm_iret hx hb hr hlocks hP hS dX11_least_13
set_option maxHeartbeats 4000000 in
set_option maxRecDepth 100000 in
theorem k_X11_member (l : Launch) (D : va_G) (cA : Nat → ClassId) (adr : Nat → Nat) (hJ : smJ 1 adr) (a0 : Nat) (x1 : Int32) (x2 : Int32) (x3 : Int32) (ha0 : smT 1 a0 11) (M : smM) (v1 : Int32) (M1 : smM) (h : m_X11_member a0 x1 x2 x3 M = some (v1, M1)) : Met l yX11_member wsX11_member ({ frames := 6, cells := 0, slots := 0, locals := 144 }) (smPc D cA 1 adr M [.ref (adr a0), .int x1, .int x2, .int x3]) (smQi D cA 1 adr M1 v1) 0 0 (smA 1 adr) := by
  refine Met.ofW (cc := cX11_member) (maxL := 5) (ret := (some .int)) (by decide) rfl ?_
  intro p e s m args below meth c s₁ B hml hv
  obtain ⟨rfl, hE, hP⟩ := hv
  have hx := B.exec
  have hb := B.bytes
  have hr := B.returns
  have hts := atoms_spec (ws := wsX11_member) B.pre
  have hown : s.vm.findClass RX11 = some m.cls := findClass_of_methodNamed B.named
  have hlocks := B.notSynchronized
  have hS : va_S (smA 1 adr) s.heap s.heap [] := va_S.rf
  have hP : smP D cA 1 adr M s.heap := hP
  have hl := lv_entry ([.ref (adr a0), .int x1, .int x2, .int x3]) (n := 5) (Nat.le_of_ble_eq_true rfl)
  rw [lg_entry_eq]
  generalize (lg_sl ([.ref (adr a0), .int x1, .int x2, .int x3]) ++ List.replicate (5 - (lg_sl ([.ref (adr a0), .int x1, .int x2, .int x3])).length) Slot.unset).toArray = ls at hl ⊢
  have hl : lv_has ls 5 [(0, .ref (adr a0)), (1, .int x1), (2, .int x2), (3, .int x3)] := hl
  unfold m_X11_member at h
  have hin0 : ∀ w ∈ u_ws RX0 TX0 9, w ∈ wsX11_member := by decide +kernel
  have hin4 : ∀ w ∈ u_ws RX4 TX4 4, w ∈ wsX11_member := by decide +kernel
  refine lv_iload_n hx hb dX11_member_0 rfl (lv_at hl 1 rfl) ?_
  obtain ⟨v1_1470, hc1_1472, h⟩ := sm_bd h
  refine sm_ci (va_runS (As := [.int x1]) (rest := []) ⟨hx, hb, hml, hown, hts⟩ (k_X11_isOrder l D cA adr hJ x1  M v1_1470 hc1_1472) (va_cwS 1 hts gX11_member_X11_isOrder rfl rfl rfl (by decide +kernel) ⟨Nat.le_of_ble_eq_true rfl, Nat.le_of_ble_eq_true rfl⟩) ⟨smPc_bl, smPc_in [.int x1] hE hP⟩ rfl rfl hl.1 rfl (lv_room (Nat.le_of_ble_eq_true rfl)) dX11_member_1 ⟨Nat.zero_le _, Nat.zero_le _⟩) hS (fun H locs hP hS => ?_)
  refine lv_if_eq (tgt := 26) hx hb dX11_member_4 (by decide) (fun c4_1473 => ?_) (fun c4_1473 => ?_)
  · rw [if_pos c4_1473] at h
    refine lv_iconst (v := (-1 : Int32)) hx hb dX11_member_26 (by decide) ?_
    cases h
    exact sm_iret hx hb hr hlocks hP hS dX11_member_27
  · rw [if_neg c4_1473] at h
    refine lv_iload_n hx hb dX11_member_7 rfl (lv_at hl 2 rfl) ?_
    refine lv_if_lt (tgt := 26) hx hb dX11_member_8 (by decide) (fun c8_1474 => ?_) (fun c8_1474 => ?_)
    · rw [if_pos c8_1474] at h
      refine lv_iconst (v := (-1 : Int32)) hx hb dX11_member_26 (by decide) ?_
      cases h
      exact sm_iret hx hb hr hlocks hP hS dX11_member_27
    · rw [if_neg c8_1474] at h
      refine lv_iload_n hx hb dX11_member_11 rfl (lv_at hl 2 rfl) ?_
      refine lv_aload_n hx hb dX11_member_12 rfl (lv_at hl 0 rfl) ?_
      refine lv_iload_n hx hb dX11_member_13 rfl (lv_at hl 1 rfl) ?_
      obtain ⟨v14_1475, M14_1476, hc14_1477, h⟩ := sm_bd2 h
      refine sm_cr (va_runV (As := [.int x1]) (rest := [.int x2]) ⟨hx, hb, hml, hown, hts⟩ (k_X11_baseIn l D cA adr hJ a0 x1 ha0 M v14_1475 M14_1476 hc14_1477) (cwV 1 hts gX11_member_X11_baseIn rfl rfl rfl (by decide +kernel) ⟨Nat.le_of_ble_eq_true rfl, Nat.le_of_ble_eq_true rfl⟩) ⟨smPc_bl, smRv hE hP ha0 rfl (ci := 11) (q := (RX11, TX11, 11)) rfl, smPc_in [.ref (adr a0), .int x1] hE hP⟩ rfl rfl hl.1 rfl (lv_room (Nat.le_of_ble_eq_true rfl)) dX11_member_14 ⟨Nat.zero_le _, Nat.zero_le _⟩) hS (fun H locs hk14_1478 hP hS => ?_)
      refine sm_get (ci := 0) (C := RX0) (T := TX0) (N := 9) (v := .ref (adr (v14_1475 + 2))) hx hb hts hin0 hown hE hP hk14_1478 rfl rfl 1 (by decide) (hts (.fieldLink RX11 161 "OrderMover$Base" "members" "LOrderMover$Members;") (by decide +kernel)) (fun _ h9 => h9) rfl dX11_member_17 ?_
      refine sm_get (ci := 4) (C := RX4) (T := TX4) (N := 4) (v := .int (M14_1476 (v14_1475 + 2) 0)) hx hb hts hin4 hown hE hP (t0_1 hk14_1478) rfl rfl 0 (by decide) (hts (.fieldLink RX11 165 "OrderMover$Members" "howMany" "I") (by decide +kernel)) (fun _ h9 => h9) rfl dX11_member_20 ?_
      refine lv_icmp_lt (tgt := 28) hx hb dX11_member_23 (by decide) (fun c23_1479 => ?_) (fun c23_1479 => ?_)
      · rw [if_pos c23_1479] at h
        refine lv_aload_n hx hb dX11_member_28 rfl (lv_at hl 0 rfl) ?_
        refine lv_iload_n hx hb dX11_member_29 rfl (lv_at hl 1 rfl) ?_
        obtain ⟨v30_1480, M30_1481, hc30_1482, h⟩ := sm_bd2 h
        refine sm_cr (va_runV (As := [.int x1]) (rest := []) ⟨hx, hb, hml, hown, hts⟩ (k_X11_baseIn l D cA adr hJ a0 x1 ha0 M14_1476 v30_1480 M30_1481 hc30_1482) (cwV 1 hts gX11_member_X11_baseIn rfl rfl rfl (by decide +kernel) ⟨Nat.le_of_ble_eq_true rfl, Nat.le_of_ble_eq_true rfl⟩) ⟨smPc_bl, smRv hE hP ha0 rfl (ci := 11) (q := (RX11, TX11, 11)) rfl, smPc_in [.ref (adr a0), .int x1] hE hP⟩ rfl rfl hl.1 rfl (lv_room (Nat.le_of_ble_eq_true rfl)) dX11_member_30 ⟨Nat.zero_le _, Nat.zero_le _⟩) hS (fun H locs hk30_1483 hP hS => ?_)
        refine sm_get (ci := 0) (C := RX0) (T := TX0) (N := 9) (v := .ref (adr (v30_1480 + 2))) hx hb hts hin0 hown hE hP hk30_1483 rfl rfl 1 (by decide) (hts (.fieldLink RX11 161 "OrderMover$Base" "members" "LOrderMover$Members;") (by decide +kernel)) (fun _ h9 => h9) rfl dX11_member_33 ?_
        refine lv_astore (lv' := [(4, .ref (adr (v30_1480 + 2))), (0, .ref (adr a0)), (1, .int x1), (2, .int x2), (3, .int x3)]) hx hb dX11_member_36 hl (by decide) rfl (fun ls hl => ?_)
        refine lv_iload_n hx hb dX11_member_38 rfl (lv_at hl 4 rfl) ?_
        by_cases c39_1484 : x3 = (0 : Int32)
        · rw [if_pos c39_1484] at h
          refine lv_tableIn (tgt := 64) hx hb dX11_member_39 (by rw [c39_1484]; decide) (by rw [c39_1484]; decide) (by rw [c39_1484]; rfl) (by decide) ?_
          refine lv_aload hx hb dX11_member_64 (lv_at hl 0 rfl) ?_
          refine sm_get (ci := 4) (C := RX4) (T := TX4) (N := 4) (v := .ref (adr ((v30_1480 + 2) + 1))) hx hb hts hin4 hown hE hP (t0_1 hk30_1483) rfl rfl 1 (by decide) (hts (.fieldLink RX11 176 "OrderMover$Members" "xs" "[I") (by decide +kernel)) (fun _ h9 => h9) rfl dX11_member_66 ?_
          refine lv_iload_n hx hb dX11_member_69 rfl (lv_at hl 3 rfl) ?_
          obtain ⟨c70_1485, h⟩ := sm_ck h
          refine sm_iald hx hb hE hP (t4_1 (t0_1 hk30_1483)) c70_1485 dX11_member_70 ?_
          cases h
          exact sm_iret hx hb hr hlocks hP hS dX11_member_71
        rw [if_neg c39_1484] at h
        by_cases c39_1486 : x3 = (1 : Int32)
        · rw [if_pos c39_1486] at h
          refine lv_tableIn (tgt := 72) hx hb dX11_member_39 (by rw [c39_1486]; decide) (by rw [c39_1486]; decide) (by rw [c39_1486]; rfl) (by decide) ?_
          refine lv_aload hx hb dX11_member_72 (lv_at hl 0 rfl) ?_
          refine sm_get (ci := 4) (C := RX4) (T := TX4) (N := 4) (v := .ref (adr ((v30_1480 + 2) + 2))) hx hb hts hin4 hown hE hP (t0_1 hk30_1483) rfl rfl 2 (by decide) (hts (.fieldLink RX11 179 "OrderMover$Members" "ys" "[I") (by decide +kernel)) (fun _ h9 => h9) rfl dX11_member_74 ?_
          refine lv_iload_n hx hb dX11_member_77 rfl (lv_at hl 3 rfl) ?_
          obtain ⟨c78_1487, h⟩ := sm_ck h
          refine sm_iald hx hb hE hP (t4_2 (t0_1 hk30_1483)) c78_1487 dX11_member_78 ?_
          cases h
          exact sm_iret hx hb hr hlocks hP hS dX11_member_79
        rw [if_neg c39_1486] at h
        by_cases c39_1488 : x3 = (2 : Int32)
        · rw [if_pos c39_1488] at h
          refine lv_tableIn (tgt := 80) hx hb dX11_member_39 (by rw [c39_1488]; decide) (by rw [c39_1488]; decide) (by rw [c39_1488]; rfl) (by decide) ?_
          refine lv_aload hx hb dX11_member_80 (lv_at hl 0 rfl) ?_
          refine lv_iload_n hx hb dX11_member_82 rfl (lv_at hl 3 rfl) ?_
          obtain ⟨v83_1489, hc83_1491, h⟩ := sm_bd h
          refine sm_ci (va_runV (As := [.int x2]) (rest := []) ⟨hx, hb, hml, hown, hts⟩ (k_X4_countTerms l D cA adr hJ (v30_1480 + 2) x2 (t0_1 hk30_1483) M30_1481 v83_1489 hc83_1491) (cwV 1 hts gX11_member_X4_countTerms rfl rfl rfl (by decide +kernel) ⟨Nat.le_of_ble_eq_true rfl, Nat.le_of_ble_eq_true rfl⟩) ⟨smPc_bl, smRv hE hP (t0_1 hk30_1483) rfl (ci := 4) (q := (RX4, TX4, 4)) rfl, smPc_in [.ref (adr (v30_1480 + 2)), .int x2] hE hP⟩ rfl rfl hl.1 rfl (lv_room (Nat.le_of_ble_eq_true rfl)) dX11_member_83 ⟨Nat.zero_le _, Nat.zero_le _⟩) hS (fun H locs hP hS => ?_)
          cases h
          exact sm_iret hx hb hr hlocks hP hS dX11_member_86
        rw [if_neg c39_1488] at h
        have qc39_1484 := sm_ne (j := 0) c39_1484 (by decide)
        have qc39_1486 := sm_ne (j := 1) c39_1486 (by decide)
        have qc39_1488 := sm_ne (j := 2) c39_1488 (by decide)
        refine lv_tableOut (tgt := 87) hx hb dX11_member_39 (by omega) (by decide) ?_
        refine lv_iconst (v := (-1 : Int32)) hx hb dX11_member_87 (by decide) ?_
        cases h
        exact sm_iret hx hb hr hlocks hP hS dX11_member_88
      · rw [if_neg c23_1479] at h
        refine lv_iconst (v := (-1 : Int32)) hx hb dX11_member_26 (by decide) ?_
        cases h
        exact sm_iret hx hb hr hlocks hP hS dX11_member_27
set_option maxHeartbeats 4000000 in
set_option maxRecDepth 100000 in
theorem k_X11_normal (l : Launch) (D : va_G) (cA : Nat → ClassId) (adr : Nat → Nat) (hJ : smJ 1 adr) (a0 : Nat) (x1 : Int32) (x2 : Int32) (x3 : Int32) (x4 : Int32) (ha0 : smT 1 a0 11) (M : smM) (v1 : Int32) (M1 : smM) (h : m_X11_normal a0 x1 x2 x3 x4 M = some (v1, M1)) : Met l yX11_normal wsX11_normal ({ frames := 6, cells := 0, slots := 0, locals := 144 }) (smPc D cA 1 adr M [.ref (adr a0), .int x1, .int x2, .int x3, .int x4]) (smQi D cA 1 adr M1 v1) 0 0 (smA 1 adr) := by
  refine Met.ofW (cc := cX11_normal) (maxL := 5) (ret := (some .int)) (by decide) rfl ?_
  intro p e s m args below meth c s₁ B hml hv
  obtain ⟨rfl, hE, hP⟩ := hv
  have hx := B.exec
  have hb := B.bytes
  have hr := B.returns
  have hts := atoms_spec (ws := wsX11_normal) B.pre
  have hown : s.vm.findClass RX11 = some m.cls := findClass_of_methodNamed B.named
  have hlocks := B.notSynchronized
  have hS : va_S (smA 1 adr) s.heap s.heap [] := va_S.rf
  have hP : smP D cA 1 adr M s.heap := hP
  have hl := lv_entry ([.ref (adr a0), .int x1, .int x2, .int x3, .int x4]) (n := 5) (Nat.le_of_ble_eq_true rfl)
  rw [lg_entry_eq]
  generalize (lg_sl ([.ref (adr a0), .int x1, .int x2, .int x3, .int x4]) ++ List.replicate (5 - (lg_sl ([.ref (adr a0), .int x1, .int x2, .int x3, .int x4])).length) Slot.unset).toArray = ls at hl ⊢
  have hl : lv_has ls 5 [(0, .ref (adr a0)), (1, .int x1), (2, .int x2), (3, .int x3), (4, .int x4)] := hl
  unfold m_X11_normal at h
  have hin0 : ∀ w ∈ u_ws RX0 TX0 9, w ∈ wsX11_normal := by decide +kernel
  have hin11 : ∀ w ∈ u_ws RX11 TX11 11, w ∈ wsX11_normal := by decide +kernel
  refine lv_iload_n hx hb dX11_normal_0 rfl (lv_at hl 1 rfl) ?_
  obtain ⟨v1_1492, hc1_1494, h⟩ := sm_bd h
  refine sm_ci (va_runS (As := [.int x1]) (rest := []) ⟨hx, hb, hml, hown, hts⟩ (k_X11_isOrder l D cA adr hJ x1  M v1_1492 hc1_1494) (va_cwS 1 hts gX11_normal_X11_isOrder rfl rfl rfl (by decide +kernel) ⟨Nat.le_of_ble_eq_true rfl, Nat.le_of_ble_eq_true rfl⟩) ⟨smPc_bl, smPc_in [.int x1] hE hP⟩ rfl rfl hl.1 rfl (lv_room (Nat.le_of_ble_eq_true rfl)) dX11_normal_1 ⟨Nat.zero_le _, Nat.zero_le _⟩) hS (fun H locs hP hS => ?_)
  refine lv_if_eq (tgt := 24) hx hb dX11_normal_4 (by decide) (fun c4_1495 => ?_) (fun c4_1495 => ?_)
  · rw [if_pos c4_1495] at h
    refine lv_iconst (v := (-1 : Int32)) hx hb dX11_normal_24 (by decide) ?_
    cases h
    exact sm_iret hx hb hr hlocks hP hS dX11_normal_25
  · rw [if_neg c4_1495] at h
    refine lv_iload_n hx hb dX11_normal_7 rfl (lv_at hl 2 rfl) ?_
    refine lv_if_lt (tgt := 24) hx hb dX11_normal_8 (by decide) (fun c8_1496 => ?_) (fun c8_1496 => ?_)
    · rw [if_pos c8_1496] at h
      refine lv_iconst (v := (-1 : Int32)) hx hb dX11_normal_24 (by decide) ?_
      cases h
      exact sm_iret hx hb hr hlocks hP hS dX11_normal_25
    · rw [if_neg c8_1496] at h
      refine lv_iload_n hx hb dX11_normal_11 rfl (lv_at hl 3 rfl) ?_
      refine lv_if_lt (tgt := 24) hx hb dX11_normal_12 (by decide) (fun c12_1497 => ?_) (fun c12_1497 => ?_)
      · rw [if_pos c12_1497] at h
        refine lv_iconst (v := (-1 : Int32)) hx hb dX11_normal_24 (by decide) ?_
        cases h
        exact sm_iret hx hb hr hlocks hP hS dX11_normal_25
      · rw [if_neg c12_1497] at h
        refine lv_aload_n hx hb dX11_normal_15 rfl (lv_at hl 0 rfl) ?_
        refine lv_iload hx hb dX11_normal_16 (lv_at hl 4 rfl) ?_
        obtain ⟨v18_1498, hc18_1500, h⟩ := sm_bd h
        refine sm_ci (va_runV (As := [.int x4]) (rest := []) ⟨hx, hb, hml, hown, hts⟩ (k_X11_isStair l D cA adr hJ a0 x4 ha0 M v18_1498 hc18_1500) (cwV 1 hts gX11_normal_X11_isStair rfl rfl rfl (by decide +kernel) ⟨Nat.le_of_ble_eq_true rfl, Nat.le_of_ble_eq_true rfl⟩) ⟨smPc_bl, smRv hE hP ha0 rfl (ci := 11) (q := (RX11, TX11, 11)) rfl, smPc_in [.ref (adr a0), .int x4] hE hP⟩ rfl rfl hl.1 rfl (lv_room (Nat.le_of_ble_eq_true rfl)) dX11_normal_18 ⟨Nat.zero_le _, Nat.zero_le _⟩) hS (fun H locs hP hS => ?_)
        refine lv_if_ne (tgt := 26) hx hb dX11_normal_21 (by decide) (fun c21_1501 => ?_) (fun c21_1501 => ?_)
        · rw [if_neg c21_1501] at h
          refine lv_aload_n hx hb dX11_normal_26 rfl (lv_at hl 0 rfl) ?_
          obtain ⟨v27_1502, M27_1503, hc27_1504, h⟩ := sm_bd2 h
          refine sm_cr (va_runV (As := []) (rest := []) ⟨hx, hb, hml, hown, hts⟩ (k_X11_currentIdeal l D cA adr hJ a0 ha0 M v27_1502 M27_1503 hc27_1504) (cwV 0 hts gX11_normal_X11_currentIdeal rfl rfl rfl (by decide +kernel) ⟨Nat.le_of_ble_eq_true rfl, Nat.le_of_ble_eq_true rfl⟩) ⟨smPc_bl, smRv hE hP ha0 rfl (ci := 11) (q := (RX11, TX11, 11)) rfl, smPc_in [.ref (adr a0)] hE hP⟩ rfl rfl hl.1 rfl (lv_room (Nat.le_of_ble_eq_true rfl)) dX11_normal_27 ⟨Nat.zero_le _, Nat.zero_le _⟩) hS (fun H locs hk27_1505 hP hS => ?_)
          refine lv_iload_n hx hb dX11_normal_30 rfl (lv_at hl 2 rfl) ?_
          refine lv_iload_n hx hb dX11_normal_31 rfl (lv_at hl 3 rfl) ?_
          refine lv_aload_n hx hb dX11_normal_32 rfl (lv_at hl 0 rfl) ?_
          refine sm_get (ci := 11) (C := RX11) (T := TX11) (N := 11) (v := .ref (adr (a0 + 504))) hx hb hts hin11 hown hE hP ha0 rfl rfl 8 (by decide) (hts (.fieldLink RX11 60 "OrderMover" "vector" "[I") (by decide +kernel)) (fun _ h9 => h9) rfl dX11_normal_33 ?_
          obtain ⟨M36_1507, hc36_1508, h⟩ := sm_bd h
          refine sm_cv (va_runV (As := [.int x2, .int x3, .ref (adr (a0 + 504))]) (rest := []) ⟨hx, hb, hml, hown, hts⟩ (k_X2_vectorOfTerm l D cA adr hJ v27_1502 x2 x3 (a0 + 504) hk27_1505 (t11_8 ha0) M27_1503 M36_1507 hc36_1508) (cwV 3 hts gX11_normal_X2_vectorOfTerm rfl rfl rfl (by decide +kernel) ⟨Nat.le_of_ble_eq_true rfl, Nat.le_of_ble_eq_true rfl⟩) ⟨smPc_bl, smRv hE hP hk27_1505 rfl (ci := 2) (q := (RX2, TX2, 9)) rfl, smPc_in [.ref (adr v27_1502), .int x2, .int x3, .ref (adr (a0 + 504))] hE hP⟩ rfl rfl hl.1 rfl (lv_room (Nat.le_of_ble_eq_true rfl)) dX11_normal_36 ⟨Nat.zero_le _, Nat.zero_le _⟩) hS (fun H locs hP hS => ?_)
          refine lv_aload_n hx hb dX11_normal_39 rfl (lv_at hl 0 rfl) ?_
          refine lv_iload_n hx hb dX11_normal_40 rfl (lv_at hl 1 rfl) ?_
          obtain ⟨v41_1509, M41_1510, hc41_1511, h⟩ := sm_bd2 h
          refine sm_cr (va_runV (As := [.int x1]) (rest := []) ⟨hx, hb, hml, hown, hts⟩ (k_X11_baseIn l D cA adr hJ a0 x1 ha0 M36_1507 v41_1509 M41_1510 hc41_1511) (cwV 1 hts gX11_normal_X11_baseIn rfl rfl rfl (by decide +kernel) ⟨Nat.le_of_ble_eq_true rfl, Nat.le_of_ble_eq_true rfl⟩) ⟨smPc_bl, smRv hE hP ha0 rfl (ci := 11) (q := (RX11, TX11, 11)) rfl, smPc_in [.ref (adr a0), .int x1] hE hP⟩ rfl rfl hl.1 rfl (lv_room (Nat.le_of_ble_eq_true rfl)) dX11_normal_41 ⟨Nat.zero_le _, Nat.zero_le _⟩) hS (fun H locs hk41_1512 hP hS => ?_)
          refine sm_get (ci := 0) (C := RX0) (T := TX0) (N := 9) (v := .ref (adr (v41_1509 + 16))) hx hb hts hin0 hown hE hP hk41_1512 rfl rfl 2 (by decide) (hts (.fieldLink RX11 205 "OrderMover$Base" "span" "LOrderMover$Span;") (by decide +kernel)) (fun _ h9 => h9) rfl dX11_normal_44 ?_
          refine lv_aload_n hx hb dX11_normal_47 rfl (lv_at hl 0 rfl) ?_
          refine sm_get (ci := 11) (C := RX11) (T := TX11) (N := 11) (v := .ref (adr (a0 + 504))) hx hb hts hin11 hown hE hP ha0 rfl rfl 8 (by decide) (hts (.fieldLink RX11 60 "OrderMover" "vector" "[I") (by decide +kernel)) (fun _ h9 => h9) rfl dX11_normal_48 ?_
          refine lv_aload_n hx hb dX11_normal_51 rfl (lv_at hl 0 rfl) ?_
          refine sm_get (ci := 11) (C := RX11) (T := TX11) (N := 11) (v := .ref (adr (a0 + 506))) hx hb hts hin11 hown hE hP ha0 rfl rfl 10 (by decide) (hts (.fieldLink RX11 67 "OrderMover" "form" "[I") (by decide +kernel)) (fun _ h9 => h9) rfl dX11_normal_52 ?_
          obtain ⟨M55_1514, hc55_1515, h⟩ := sm_bd h
          refine sm_cv (va_runV (As := [.ref (adr (a0 + 504)), .ref (adr (a0 + 506))]) (rest := []) ⟨hx, hb, hml, hown, hts⟩ (k_X9_express l D cA adr hJ (v41_1509 + 16) (a0 + 504) (a0 + 506) (t0_2 hk41_1512) (t11_8 ha0) (t11_10 ha0) M41_1510 M55_1514 hc55_1515) (cwV 2 hts gX11_normal_X9_express rfl rfl rfl (by decide +kernel) ⟨Nat.le_of_ble_eq_true rfl, Nat.le_of_ble_eq_true rfl⟩) ⟨smPc_bl, smRv hE hP (t0_2 hk41_1512) rfl (ci := 9) (q := (RX9, TX9, 5)) rfl, smPc_in [.ref (adr (v41_1509 + 16)), .ref (adr (a0 + 504)), .ref (adr (a0 + 506))] hE hP⟩ rfl rfl hl.1 rfl (lv_room (Nat.le_of_ble_eq_true rfl)) dX11_normal_55 ⟨Nat.zero_le _, Nat.zero_le _⟩) hS (fun H locs hP hS => ?_)
          refine lv_aload_n hx hb dX11_normal_58 rfl (lv_at hl 0 rfl) ?_
          refine sm_get (ci := 11) (C := RX11) (T := TX11) (N := 11) (v := .ref (adr (a0 + 506))) hx hb hts hin11 hown hE hP ha0 rfl rfl 10 (by decide) (hts (.fieldLink RX11 67 "OrderMover" "form" "[I") (by decide +kernel)) (fun _ h9 => h9) rfl dX11_normal_59 ?_
          refine lv_iload hx hb dX11_normal_62 (lv_at hl 4 rfl) ?_
          obtain ⟨c64_1516, h⟩ := sm_ck h
          refine sm_iald hx hb hE hP (t11_10 ha0) c64_1516 dX11_normal_64 ?_
          cases h
          exact sm_iret hx hb hr hlocks hP hS dX11_normal_65
        · rw [if_pos c21_1501] at h
          refine lv_iconst (v := (-1 : Int32)) hx hb dX11_normal_24 (by decide) ?_
          cases h
          exact sm_iret hx hb hr hlocks hP hS dX11_normal_25
set_option maxHeartbeats 4000000 in
set_option maxRecDepth 100000 in
theorem k_X11_place (l : Launch) (D : va_G) (cA : Nat → ClassId) (adr : Nat → Nat) (hJ : smJ 1 adr) (a0 : Nat) (x1 : Int32) (x2 : Int32) (x3 : Int32) (ha0 : smT 1 a0 11) (M : smM) (v1 : Int32) (M1 : smM) (h : m_X11_place a0 x1 x2 x3 M = some (v1, M1)) : Met l yX11_place wsX11_place ({ frames := 6, cells := 0, slots := 0, locals := 144 }) (smPc D cA 1 adr M [.ref (adr a0), .int x1, .int x2, .int x3]) (smQi D cA 1 adr M1 v1) 0 0 (smA 1 adr) := by
  refine Met.ofW (cc := cX11_place) (maxL := 4) (ret := (some .int)) (by decide) rfl ?_
  intro p e s m args below meth c s₁ B hml hv
  obtain ⟨rfl, hE, hP⟩ := hv
  have hx := B.exec
  have hb := B.bytes
  have hr := B.returns
  have hts := atoms_spec (ws := wsX11_place) B.pre
  have hown : s.vm.findClass RX11 = some m.cls := findClass_of_methodNamed B.named
  have hlocks := B.notSynchronized
  have hS : va_S (smA 1 adr) s.heap s.heap [] := va_S.rf
  have hP : smP D cA 1 adr M s.heap := hP
  have hl := lv_entry ([.ref (adr a0), .int x1, .int x2, .int x3]) (n := 4) (Nat.le_of_ble_eq_true rfl)
  rw [lg_entry_eq]
  generalize (lg_sl ([.ref (adr a0), .int x1, .int x2, .int x3]) ++ List.replicate (4 - (lg_sl ([.ref (adr a0), .int x1, .int x2, .int x3])).length) Slot.unset).toArray = ls at hl ⊢
  have hl : lv_has ls 4 [(0, .ref (adr a0)), (1, .int x1), (2, .int x2), (3, .int x3)] := hl
  unfold m_X11_place at h
  refine lv_iload_n hx hb dX11_place_0 rfl (lv_at hl 1 rfl) ?_
  obtain ⟨v1_1517, hc1_1519, h⟩ := sm_bd h
  refine sm_ci (va_runS (As := [.int x1]) (rest := []) ⟨hx, hb, hml, hown, hts⟩ (k_X11_isOrder l D cA adr hJ x1  M v1_1517 hc1_1519) (va_cwS 1 hts gX11_place_X11_isOrder rfl rfl rfl (by decide +kernel) ⟨Nat.le_of_ble_eq_true rfl, Nat.le_of_ble_eq_true rfl⟩) ⟨smPc_bl, smPc_in [.int x1] hE hP⟩ rfl rfl hl.1 rfl (lv_room (Nat.le_of_ble_eq_true rfl)) dX11_place_1 ⟨Nat.zero_le _, Nat.zero_le _⟩) hS (fun H locs hP hS => ?_)
  refine lv_if_eq (tgt := 15) hx hb dX11_place_4 (by decide) (fun c4_1520 => ?_) (fun c4_1520 => ?_)
  · rw [if_pos c4_1520] at h
    refine lv_iconst (v := (-1 : Int32)) hx hb dX11_place_15 (by decide) ?_
    cases h
    exact sm_iret hx hb hr hlocks hP hS dX11_place_16
  · rw [if_neg c4_1520] at h
    refine lv_iload_n hx hb dX11_place_7 rfl (lv_at hl 2 rfl) ?_
    refine lv_if_lt (tgt := 15) hx hb dX11_place_8 (by decide) (fun c8_1521 => ?_) (fun c8_1521 => ?_)
    · rw [if_pos c8_1521] at h
      refine lv_iconst (v := (-1 : Int32)) hx hb dX11_place_15 (by decide) ?_
      cases h
      exact sm_iret hx hb hr hlocks hP hS dX11_place_16
    · rw [if_neg c8_1521] at h
      refine lv_iload_n hx hb dX11_place_11 rfl (lv_at hl 3 rfl) ?_
      refine lv_if_ge (tgt := 17) hx hb dX11_place_12 (by decide) (fun c12_1522 => ?_) (fun c12_1522 => ?_)
      · rw [if_pos c12_1522] at h
        refine lv_aload_n hx hb dX11_place_17 rfl (lv_at hl 0 rfl) ?_
        refine lv_iload_n hx hb dX11_place_18 rfl (lv_at hl 1 rfl) ?_
        obtain ⟨v19_1523, M19_1524, hc19_1525, h⟩ := sm_bd2 h
        refine sm_cr (va_runV (As := [.int x1]) (rest := []) ⟨hx, hb, hml, hown, hts⟩ (k_X11_baseIn l D cA adr hJ a0 x1 ha0 M v19_1523 M19_1524 hc19_1525) (cwV 1 hts gX11_place_X11_baseIn rfl rfl rfl (by decide +kernel) ⟨Nat.le_of_ble_eq_true rfl, Nat.le_of_ble_eq_true rfl⟩) ⟨smPc_bl, smRv hE hP ha0 rfl (ci := 11) (q := (RX11, TX11, 11)) rfl, smPc_in [.ref (adr a0), .int x1] hE hP⟩ rfl rfl hl.1 rfl (lv_room (Nat.le_of_ble_eq_true rfl)) dX11_place_19 ⟨Nat.zero_le _, Nat.zero_le _⟩) hS (fun H locs hk19_1526 hP hS => ?_)
        refine lv_iload_n hx hb dX11_place_22 rfl (lv_at hl 2 rfl) ?_
        refine lv_iload_n hx hb dX11_place_23 rfl (lv_at hl 3 rfl) ?_
        obtain ⟨v24_1527, hc24_1529, h⟩ := sm_bd h
        refine sm_ci (va_runV (As := [.int x2, .int x3]) (rest := []) ⟨hx, hb, hml, hown, hts⟩ (k_X0_stairAt l D cA adr hJ v19_1523 x2 x3 hk19_1526 M19_1524 v24_1527 hc24_1529) (cwV 2 hts gX11_place_X0_stairAt rfl rfl rfl (by decide +kernel) ⟨Nat.le_of_ble_eq_true rfl, Nat.le_of_ble_eq_true rfl⟩) ⟨smPc_bl, smRv hE hP hk19_1526 rfl (ci := 0) (q := (RX0, TX0, 9)) rfl, smPc_in [.ref (adr v19_1523), .int x2, .int x3] hE hP⟩ rfl rfl hl.1 rfl (lv_room (Nat.le_of_ble_eq_true rfl)) dX11_place_24 ⟨Nat.zero_le _, Nat.zero_le _⟩) hS (fun H locs hP hS => ?_)
        cases h
        exact sm_iret hx hb hr hlocks hP hS dX11_place_27
      · rw [if_neg c12_1522] at h
        refine lv_iconst (v := (-1 : Int32)) hx hb dX11_place_15 (by decide) ?_
        cases h
        exact sm_iret hx hb hr hlocks hP hS dX11_place_16
set_option maxHeartbeats 4000000 in
set_option maxRecDepth 100000 in
theorem k_X11_plus (l : Launch) (D : va_G) (cA : Nat → ClassId) (adr : Nat → Nat) (hJ : smJ 1 adr) (a0 : Nat) (x1 : Int32) (x2 : Int32) (x3 : Int32) (ha0 : smT 1 a0 11) (M : smM) (v1 : Int32) (M1 : smM) (h : m_X11_plus a0 x1 x2 x3 M = some (v1, M1)) : Met l yX11_plus wsX11_plus ({ frames := 3, cells := 0, slots := 0, locals := 74 }) (smPc D cA 1 adr M [.ref (adr a0), .int x1, .int x2, .int x3]) (smQi D cA 1 adr M1 v1) 0 0 (smA 1 adr) := by
  refine Met.ofW (cc := cX11_plus) (maxL := 4) (ret := (some .int)) (by decide) rfl ?_
  intro p e s m args below meth c s₁ B hml hv
  obtain ⟨rfl, hE, hP⟩ := hv
  have hx := B.exec
  have hb := B.bytes
  have hr := B.returns
  have hts := atoms_spec (ws := wsX11_plus) B.pre
  have hown : s.vm.findClass RX11 = some m.cls := findClass_of_methodNamed B.named
  have hlocks := B.notSynchronized
  have hS : va_S (smA 1 adr) s.heap s.heap [] := va_S.rf
  have hP : smP D cA 1 adr M s.heap := hP
  have hl := lv_entry ([.ref (adr a0), .int x1, .int x2, .int x3]) (n := 4) (Nat.le_of_ble_eq_true rfl)
  rw [lg_entry_eq]
  generalize (lg_sl ([.ref (adr a0), .int x1, .int x2, .int x3]) ++ List.replicate (4 - (lg_sl ([.ref (adr a0), .int x1, .int x2, .int x3])).length) Slot.unset).toArray = ls at hl ⊢
  have hl : lv_has ls 4 [(0, .ref (adr a0)), (1, .int x1), (2, .int x2), (3, .int x3)] := hl
  unfold m_X11_plus at h
  have hin7 : ∀ w ∈ u_ws RX7 TX7 7, w ∈ wsX11_plus := by decide +kernel
  have hin8 : ∀ w ∈ u_ws RX8 TX8 4, w ∈ wsX11_plus := by decide +kernel
  have hin11 : ∀ w ∈ u_ws RX11 TX11 11, w ∈ wsX11_plus := by decide +kernel
  refine lv_iload_n hx hb dX11_plus_0 rfl (lv_at hl 1 rfl) ?_
  obtain ⟨v1_1530, hc1_1532, h⟩ := sm_bd h
  refine sm_ci (va_runS (As := [.int x1]) (rest := []) ⟨hx, hb, hml, hown, hts⟩ (k_X11_isSlot l D cA adr hJ x1  M v1_1530 hc1_1532) (va_cwS 1 hts gX11_plus_X11_isSlot rfl rfl rfl (by decide +kernel) ⟨Nat.le_of_ble_eq_true rfl, Nat.le_of_ble_eq_true rfl⟩) ⟨smPc_bl, smPc_in [.int x1] hE hP⟩ rfl rfl hl.1 rfl (lv_room (Nat.le_of_ble_eq_true rfl)) dX11_plus_1 ⟨Nat.zero_le _, Nat.zero_le _⟩) hS (fun H locs hP hS => ?_)
  refine lv_if_eq (tgt := 22) hx hb dX11_plus_4 (by decide) (fun c4_1533 => ?_) (fun c4_1533 => ?_)
  · rw [if_pos c4_1533] at h
    refine lv_iconst (v := (-1 : Int32)) hx hb dX11_plus_22 (by decide) ?_
    cases h
    exact sm_iret hx hb hr hlocks hP hS dX11_plus_23
  · rw [if_neg c4_1533] at h
    refine lv_iload_n hx hb dX11_plus_7 rfl (lv_at hl 2 rfl) ?_
    obtain ⟨v8_1534, hc8_1536, h⟩ := sm_bd h
    refine sm_ci (va_runS (As := [.int x2]) (rest := []) ⟨hx, hb, hml, hown, hts⟩ (k_X11_isSlot l D cA adr hJ x2  M v8_1534 hc8_1536) (va_cwS 1 hts gX11_plus_X11_isSlot rfl rfl rfl (by decide +kernel) ⟨Nat.le_of_ble_eq_true rfl, Nat.le_of_ble_eq_true rfl⟩) ⟨smPc_bl, smPc_in [.int x2] hE hP⟩ rfl rfl hl.1 rfl (lv_room (Nat.le_of_ble_eq_true rfl)) dX11_plus_8 ⟨Nat.zero_le _, Nat.zero_le _⟩) hS (fun H locs hP hS => ?_)
    refine lv_if_eq (tgt := 22) hx hb dX11_plus_11 (by decide) (fun c11_1537 => ?_) (fun c11_1537 => ?_)
    · rw [if_pos c11_1537] at h
      refine lv_iconst (v := (-1 : Int32)) hx hb dX11_plus_22 (by decide) ?_
      cases h
      exact sm_iret hx hb hr hlocks hP hS dX11_plus_23
    · rw [if_neg c11_1537] at h
      refine lv_aload_n hx hb dX11_plus_14 rfl (lv_at hl 0 rfl) ?_
      refine lv_iload_n hx hb dX11_plus_15 rfl (lv_at hl 3 rfl) ?_
      obtain ⟨v16_1538, hc16_1540, h⟩ := sm_bd h
      refine sm_ci (va_runV (As := [.int x3]) (rest := []) ⟨hx, hb, hml, hown, hts⟩ (k_X11_isNumber l D cA adr hJ a0 x3 ha0 M v16_1538 hc16_1540) (cwV 1 hts gX11_plus_X11_isNumber rfl rfl rfl (by decide +kernel) ⟨Nat.le_of_ble_eq_true rfl, Nat.le_of_ble_eq_true rfl⟩) ⟨smPc_bl, smRv hE hP ha0 rfl (ci := 11) (q := (RX11, TX11, 11)) rfl, smPc_in [.ref (adr a0), .int x3] hE hP⟩ rfl rfl hl.1 rfl (lv_room (Nat.le_of_ble_eq_true rfl)) dX11_plus_16 ⟨Nat.zero_le _, Nat.zero_le _⟩) hS (fun H locs hP hS => ?_)
      refine lv_if_ne (tgt := 24) hx hb dX11_plus_19 (by decide) (fun c19_1541 => ?_) (fun c19_1541 => ?_)
      · rw [if_neg c19_1541] at h
        refine lv_aload_n hx hb dX11_plus_24 rfl (lv_at hl 0 rfl) ?_
        refine sm_get (ci := 11) (C := RX11) (T := TX11) (N := 11) (v := .ref (adr (a0 + 12))) hx hb hts hin11 hown hE hP ha0 rfl rfl 3 (by decide) (hts (.fieldLink RX11 26 "OrderMover" "slots" "[LOrderMover$Slot;") (by decide +kernel)) (fun _ h9 => h9) rfl dX11_plus_25 ?_
        refine lv_iload_n hx hb dX11_plus_28 rfl (lv_at hl 1 rfl) ?_
        obtain ⟨c29_1542, h⟩ := sm_ck h
        refine sm_aald24 hx hb hE hP (t11_3 ha0) c29_1542 dX11_plus_29 ?_
        refine sm_get (ci := 8) (C := RX8) (T := TX8) (N := 4) (v := .int (M ((a0 + 12) + 1 + 20 * (x1).toNatClampNeg) 0)) hx hb hts hin8 hown hE hP (te24 (t11_3 ha0) c29_1542) rfl rfl 0 (by decide) (hts (.fieldLink RX11 252 "OrderMover$Slot" "holds" "I") (by decide +kernel)) (fun _ h9 => h9) rfl dX11_plus_30 ?_
        refine lv_if_eq (tgt := 48) hx hb dX11_plus_33 (by decide) (fun c33_1543 => ?_) (fun c33_1543 => ?_)
        · rw [if_pos c33_1543] at h
          refine lv_bipush (v := (-11 : Int32)) hx hb dX11_plus_48 (by decide) ?_
          cases h
          exact sm_iret hx hb hr hlocks hP hS dX11_plus_50
        · rw [if_neg c33_1543] at h
          refine lv_aload_n hx hb dX11_plus_36 rfl (lv_at hl 0 rfl) ?_
          refine sm_get (ci := 11) (C := RX11) (T := TX11) (N := 11) (v := .ref (adr (a0 + 12))) hx hb hts hin11 hown hE hP ha0 rfl rfl 3 (by decide) (hts (.fieldLink RX11 26 "OrderMover" "slots" "[LOrderMover$Slot;") (by decide +kernel)) (fun _ h9 => h9) rfl dX11_plus_37 ?_
          refine lv_iload_n hx hb dX11_plus_40 rfl (lv_at hl 2 rfl) ?_
          obtain ⟨c41_1544, h⟩ := sm_ck h
          refine sm_aald24 hx hb hE hP (t11_3 ha0) c41_1544 dX11_plus_41 ?_
          refine sm_get (ci := 8) (C := RX8) (T := TX8) (N := 4) (v := .int (M ((a0 + 12) + 1 + 20 * (x2).toNatClampNeg) 0)) hx hb hts hin8 hown hE hP (te24 (t11_3 ha0) c41_1544) rfl rfl 0 (by decide) (hts (.fieldLink RX11 252 "OrderMover$Slot" "holds" "I") (by decide +kernel)) (fun _ h9 => h9) rfl dX11_plus_42 ?_
          refine lv_if_ne (tgt := 51) hx hb dX11_plus_45 (by decide) (fun c45_1545 => ?_) (fun c45_1545 => ?_)
          · rw [if_neg c45_1545] at h
            refine lv_aload_n hx hb dX11_plus_51 rfl (lv_at hl 0 rfl) ?_
            refine sm_get (ci := 11) (C := RX11) (T := TX11) (N := 11) (v := .ref (adr (a0 + 12))) hx hb hts hin11 hown hE hP ha0 rfl rfl 3 (by decide) (hts (.fieldLink RX11 26 "OrderMover" "slots" "[LOrderMover$Slot;") (by decide +kernel)) (fun _ h9 => h9) rfl dX11_plus_52 ?_
            refine lv_iload_n hx hb dX11_plus_55 rfl (lv_at hl 1 rfl) ?_
            obtain ⟨c56_1546, h⟩ := sm_ck h
            refine sm_aald24 hx hb hE hP (t11_3 ha0) c56_1546 dX11_plus_56 ?_
            refine sm_get (ci := 8) (C := RX8) (T := TX8) (N := 4) (v := .int (M ((a0 + 12) + 1 + 20 * (x1).toNatClampNeg) 0)) hx hb hts hin8 hown hE hP (te24 (t11_3 ha0) c56_1546) rfl rfl 0 (by decide) (hts (.fieldLink RX11 252 "OrderMover$Slot" "holds" "I") (by decide +kernel)) (fun _ h9 => h9) rfl dX11_plus_57 ?_
            refine lv_iconst (v := (1 : Int32)) hx hb dX11_plus_60 (by decide) ?_
            refine lv_icmp_ne (tgt := 77) hx hb dX11_plus_61 (by decide) (fun c61_1547 => ?_) (fun c61_1547 => ?_)
            · rw [if_neg c61_1547] at h
              refine lv_bipush (v := (-12 : Int32)) hx hb dX11_plus_77 (by decide) ?_
              cases h
              exact sm_iret hx hb hr hlocks hP hS dX11_plus_79
            · rw [if_pos c61_1547] at h
              refine lv_aload_n hx hb dX11_plus_64 rfl (lv_at hl 0 rfl) ?_
              refine sm_get (ci := 11) (C := RX11) (T := TX11) (N := 11) (v := .ref (adr (a0 + 12))) hx hb hts hin11 hown hE hP ha0 rfl rfl 3 (by decide) (hts (.fieldLink RX11 26 "OrderMover" "slots" "[LOrderMover$Slot;") (by decide +kernel)) (fun _ h9 => h9) rfl dX11_plus_65 ?_
              refine lv_iload_n hx hb dX11_plus_68 rfl (lv_at hl 2 rfl) ?_
              obtain ⟨c69_1548, h⟩ := sm_ck h
              refine sm_aald24 hx hb hE hP (t11_3 ha0) c69_1548 dX11_plus_69 ?_
              refine sm_get (ci := 8) (C := RX8) (T := TX8) (N := 4) (v := .int (M ((a0 + 12) + 1 + 20 * (x2).toNatClampNeg) 0)) hx hb hts hin8 hown hE hP (te24 (t11_3 ha0) c69_1548) rfl rfl 0 (by decide) (hts (.fieldLink RX11 252 "OrderMover$Slot" "holds" "I") (by decide +kernel)) (fun _ h9 => h9) rfl dX11_plus_70 ?_
              refine lv_iconst (v := (1 : Int32)) hx hb dX11_plus_73 (by decide) ?_
              refine lv_icmp_eq (tgt := 80) hx hb dX11_plus_74 (by decide) (fun c74_1549 => ?_) (fun c74_1549 => ?_)
              · rw [if_pos c74_1549] at h
                refine lv_aload_n hx hb dX11_plus_80 rfl (lv_at hl 0 rfl) ?_
                refine sm_get (ci := 11) (C := RX11) (T := TX11) (N := 11) (v := .ref (adr (a0 + 500))) hx hb hts hin11 hown hE hP ha0 rfl rfl 7 (by decide) (hts (.fieldLink RX11 56 "OrderMover" "scratch" "LOrderMover$Polynomial;") (by decide +kernel)) (fun _ h9 => h9) rfl dX11_plus_81 ?_
                refine lv_aload_n hx hb dX11_plus_84 rfl (lv_at hl 0 rfl) ?_
                refine sm_get (ci := 11) (C := RX11) (T := TX11) (N := 11) (v := .ref (adr (a0 + 12))) hx hb hts hin11 hown hE hP ha0 rfl rfl 3 (by decide) (hts (.fieldLink RX11 26 "OrderMover" "slots" "[LOrderMover$Slot;") (by decide +kernel)) (fun _ h9 => h9) rfl dX11_plus_85 ?_
                refine lv_iload_n hx hb dX11_plus_88 rfl (lv_at hl 1 rfl) ?_
                obtain ⟨c89_1550, h⟩ := sm_ck h
                refine sm_aald24 hx hb hE hP (t11_3 ha0) c89_1550 dX11_plus_89 ?_
                refine sm_get (ci := 8) (C := RX8) (T := TX8) (N := 4) (v := .ref (adr (((a0 + 12) + 1 + 20 * (x1).toNatClampNeg) + 1))) hx hb hts hin8 hown hE hP (te24 (t11_3 ha0) c89_1550) rfl rfl 1 (by decide) (hts (.fieldLink RX11 255 "OrderMover$Slot" "polynomial" "LOrderMover$Polynomial;") (by decide +kernel)) (fun _ h9 => h9) rfl dX11_plus_90 ?_
                obtain ⟨M93_1552, hc93_1553, h⟩ := sm_bd h
                refine sm_cv (va_runV (As := [.ref (adr (((a0 + 12) + 1 + 20 * (x1).toNatClampNeg) + 1))]) (rest := []) ⟨hx, hb, hml, hown, hts⟩ (k_X5_copyFrom l D cA adr hJ (a0 + 500) (((a0 + 12) + 1 + 20 * (x1).toNatClampNeg) + 1) (t11_7 ha0) (t8_1 (te24 (t11_3 ha0) c89_1550)) M M93_1552 hc93_1553) (cwV 1 hts gX11_plus_X5_copyFrom rfl rfl rfl (by decide +kernel) ⟨Nat.le_of_ble_eq_true rfl, Nat.le_of_ble_eq_true rfl⟩) ⟨smPc_bl, smRv hE hP (t11_7 ha0) rfl (ci := 5) (q := (RX5, TX5, 4)) rfl, smPc_in [.ref (adr (a0 + 500)), .ref (adr (((a0 + 12) + 1 + 20 * (x1).toNatClampNeg) + 1))] hE hP⟩ rfl rfl hl.1 rfl (lv_room (Nat.le_of_ble_eq_true rfl)) dX11_plus_93 ⟨Nat.zero_le _, Nat.zero_le _⟩) hS (fun H locs hP hS => ?_)
                refine lv_aload_n hx hb dX11_plus_96 rfl (lv_at hl 0 rfl) ?_
                refine sm_get (ci := 11) (C := RX11) (T := TX11) (N := 11) (v := .ref (adr (a0 + 500))) hx hb hts hin11 hown hE hP ha0 rfl rfl 7 (by decide) (hts (.fieldLink RX11 56 "OrderMover" "scratch" "LOrderMover$Polynomial;") (by decide +kernel)) (fun _ h9 => h9) rfl dX11_plus_97 ?_
                refine lv_aload_n hx hb dX11_plus_100 rfl (lv_at hl 0 rfl) ?_
                refine sm_get (ci := 11) (C := RX11) (T := TX11) (N := 11) (v := .ref (adr (a0 + 12))) hx hb hts hin11 hown hE hP ha0 rfl rfl 3 (by decide) (hts (.fieldLink RX11 26 "OrderMover" "slots" "[LOrderMover$Slot;") (by decide +kernel)) (fun _ h9 => h9) rfl dX11_plus_101 ?_
                refine lv_iload_n hx hb dX11_plus_104 rfl (lv_at hl 2 rfl) ?_
                obtain ⟨c105_1554, h⟩ := sm_ck h
                refine sm_aald24 hx hb hE hP (t11_3 ha0) c105_1554 dX11_plus_105 ?_
                refine sm_get (ci := 8) (C := RX8) (T := TX8) (N := 4) (v := .ref (adr (((a0 + 12) + 1 + 20 * (x2).toNatClampNeg) + 1))) hx hb hts hin8 hown hE hP (te24 (t11_3 ha0) c105_1554) rfl rfl 1 (by decide) (hts (.fieldLink RX11 255 "OrderMover$Slot" "polynomial" "LOrderMover$Polynomial;") (by decide +kernel)) (fun _ h9 => h9) rfl dX11_plus_106 ?_
                refine lv_iload_n hx hb dX11_plus_109 rfl (lv_at hl 3 rfl) ?_
                refine lv_aload_n hx hb dX11_plus_110 rfl (lv_at hl 0 rfl) ?_
                refine sm_get (ci := 11) (C := RX11) (T := TX11) (N := 11) (v := .ref (adr (a0 + 1))) hx hb hts hin11 hown hE hP ha0 rfl rfl 0 (by decide) (hts (.fieldLink RX11 12 "OrderMover" "setting" "LOrderMover$Setting;") (by decide +kernel)) (fun _ h9 => h9) rfl dX11_plus_111 ?_
                refine sm_get (ci := 7) (C := RX7) (T := TX7) (N := 7) (v := .int (M93_1552 (a0 + 1) 0)) hx hb hts hin7 hown hE hP (t11_0 ha0) rfl rfl 0 (by decide) (hts (.fieldLink RX11 75 "OrderMover$Setting" "p" "I") (by decide +kernel)) (fun _ h9 => h9) rfl dX11_plus_114 ?_
                obtain ⟨M117_1556, hc117_1557, h⟩ := sm_bd h
                refine sm_cv (va_runV (As := [.ref (adr (((a0 + 12) + 1 + 20 * (x2).toNatClampNeg) + 1)), .int x3, .int (M93_1552 (a0 + 1) 0)]) (rest := []) ⟨hx, hb, hml, hown, hts⟩ (k_X5_bringAll l D cA adr hJ (a0 + 500) (((a0 + 12) + 1 + 20 * (x2).toNatClampNeg) + 1) x3 (M93_1552 (a0 + 1) 0) (t11_7 ha0) (t8_1 (te24 (t11_3 ha0) c105_1554)) M93_1552 M117_1556 hc117_1557) (cwV 3 hts gX11_plus_X5_bringAll rfl rfl rfl (by decide +kernel) ⟨Nat.le_of_ble_eq_true rfl, Nat.le_of_ble_eq_true rfl⟩) ⟨smPc_bl, smRv hE hP (t11_7 ha0) rfl (ci := 5) (q := (RX5, TX5, 4)) rfl, smPc_in [.ref (adr (a0 + 500)), .ref (adr (((a0 + 12) + 1 + 20 * (x2).toNatClampNeg) + 1)), .int x3, .int (M93_1552 (a0 + 1) 0)] hE hP⟩ rfl rfl hl.1 rfl (lv_room (Nat.le_of_ble_eq_true rfl)) dX11_plus_117 ⟨Nat.zero_le _, Nat.zero_le _⟩) hS (fun H locs hP hS => ?_)
                refine lv_aload_n hx hb dX11_plus_120 rfl (lv_at hl 0 rfl) ?_
                refine lv_iload_n hx hb dX11_plus_121 rfl (lv_at hl 1 rfl) ?_
                obtain ⟨v122_1558, M122_1559, hc122_1560, h⟩ := sm_bd2 h
                refine sm_ci (va_runV (As := [.int x1]) (rest := []) ⟨hx, hb, hml, hown, hts⟩ (k_X11_settle l D cA adr hJ a0 x1 ha0 M117_1556 v122_1558 M122_1559 hc122_1560) (cwV 1 hts gX11_plus_X11_settle rfl rfl rfl (by decide +kernel) ⟨Nat.le_of_ble_eq_true rfl, Nat.le_of_ble_eq_true rfl⟩) ⟨smPc_bl, smRv hE hP ha0 rfl (ci := 11) (q := (RX11, TX11, 11)) rfl, smPc_in [.ref (adr a0), .int x1] hE hP⟩ rfl rfl hl.1 rfl (lv_room (Nat.le_of_ble_eq_true rfl)) dX11_plus_122 ⟨Nat.zero_le _, Nat.zero_le _⟩) hS (fun H locs hP hS => ?_)
                cases h
                exact sm_iret hx hb hr hlocks hP hS dX11_plus_125
              · rw [if_neg c74_1549] at h
                refine lv_bipush (v := (-12 : Int32)) hx hb dX11_plus_77 (by decide) ?_
                cases h
                exact sm_iret hx hb hr hlocks hP hS dX11_plus_79
          · rw [if_pos c45_1545] at h
            refine lv_bipush (v := (-11 : Int32)) hx hb dX11_plus_48 (by decide) ?_
            cases h
            exact sm_iret hx hb hr hlocks hP hS dX11_plus_50
      · rw [if_pos c19_1541] at h
        refine lv_iconst (v := (-1 : Int32)) hx hb dX11_plus_22 (by decide) ?_
        cases h
        exact sm_iret hx hb hr hlocks hP hS dX11_plus_23
set_option maxHeartbeats 4000000 in
set_option maxRecDepth 100000 in
theorem k_X11_poly (l : Launch) (D : va_G) (cA : Nat → ClassId) (adr : Nat → Nat) (hJ : smJ 1 adr) (a0 : Nat) (x1 : Int32) (ha0 : smT 1 a0 11) (M : smM) (v1 : Int32) (M1 : smM) (h : m_X11_poly a0 x1 M = some (v1, M1)) : Met l yX11_poly wsX11_poly ({ frames := 2, cells := 0, slots := 0, locals := 42 }) (smPc D cA 1 adr M [.ref (adr a0), .int x1]) (smQi D cA 1 adr M1 v1) 0 0 (smA 1 adr) := by
  refine Met.ofW (cc := cX11_poly) (maxL := 3) (ret := (some .int)) (by decide) rfl ?_
  intro p e s m args below meth c s₁ B hml hv
  obtain ⟨rfl, hE, hP⟩ := hv
  have hx := B.exec
  have hb := B.bytes
  have hr := B.returns
  have hts := atoms_spec (ws := wsX11_poly) B.pre
  have hown : s.vm.findClass RX11 = some m.cls := findClass_of_methodNamed B.named
  have hlocks := B.notSynchronized
  have hS : va_S (smA 1 adr) s.heap s.heap [] := va_S.rf
  have hP : smP D cA 1 adr M s.heap := hP
  have hl := lv_entry ([.ref (adr a0), .int x1]) (n := 3) (Nat.le_of_ble_eq_true rfl)
  rw [lg_entry_eq]
  generalize (lg_sl ([.ref (adr a0), .int x1]) ++ List.replicate (3 - (lg_sl ([.ref (adr a0), .int x1])).length) Slot.unset).toArray = ls at hl ⊢
  have hl : lv_has ls 3 [(0, .ref (adr a0)), (1, .int x1)] := hl
  unfold m_X11_poly at h
  have hin8 : ∀ w ∈ u_ws RX8 TX8 4, w ∈ wsX11_poly := by decide +kernel
  have hin11 : ∀ w ∈ u_ws RX11 TX11 11, w ∈ wsX11_poly := by decide +kernel
  refine lv_iload_n hx hb dX11_poly_0 rfl (lv_at hl 1 rfl) ?_
  obtain ⟨v1_1561, hc1_1563, h⟩ := sm_bd h
  refine sm_ci (va_runS (As := [.int x1]) (rest := []) ⟨hx, hb, hml, hown, hts⟩ (k_X11_isSlot l D cA adr hJ x1  M v1_1561 hc1_1563) (va_cwS 1 hts gX11_poly_X11_isSlot rfl rfl rfl (by decide +kernel) ⟨Nat.le_of_ble_eq_true rfl, Nat.le_of_ble_eq_true rfl⟩) ⟨smPc_bl, smPc_in [.int x1] hE hP⟩ rfl rfl hl.1 rfl (lv_room (Nat.le_of_ble_eq_true rfl)) dX11_poly_1 ⟨Nat.zero_le _, Nat.zero_le _⟩) hS (fun H locs hP hS => ?_)
  refine lv_if_ne (tgt := 9) hx hb dX11_poly_4 (by decide) (fun c4_1564 => ?_) (fun c4_1564 => ?_)
  · rw [if_neg c4_1564] at h
    refine lv_aload_n hx hb dX11_poly_9 rfl (lv_at hl 0 rfl) ?_
    refine sm_get (ci := 11) (C := RX11) (T := TX11) (N := 11) (v := .ref (adr (a0 + 12))) hx hb hts hin11 hown hE hP ha0 rfl rfl 3 (by decide) (hts (.fieldLink RX11 26 "OrderMover" "slots" "[LOrderMover$Slot;") (by decide +kernel)) (fun _ h9 => h9) rfl dX11_poly_10 ?_
    refine lv_iload_n hx hb dX11_poly_13 rfl (lv_at hl 1 rfl) ?_
    obtain ⟨c14_1565, h⟩ := sm_ck h
    refine sm_aald24 hx hb hE hP (t11_3 ha0) c14_1565 dX11_poly_14 ?_
    refine sm_get (ci := 8) (C := RX8) (T := TX8) (N := 4) (v := .int (M ((a0 + 12) + 1 + 20 * (x1).toNatClampNeg) 0)) hx hb hts hin8 hown hE hP (te24 (t11_3 ha0) c14_1565) rfl rfl 0 (by decide) (hts (.fieldLink RX11 252 "OrderMover$Slot" "holds" "I") (by decide +kernel)) (fun _ h9 => h9) rfl dX11_poly_15 ?_
    refine lv_istore_n (lv' := [(2, .int (M ((a0 + 12) + 1 + 20 * (x1).toNatClampNeg) 0)), (0, .ref (adr a0)), (1, .int x1)]) hx hb dX11_poly_18 rfl hl (by decide) rfl (fun ls hl => ?_)
    refine lv_aload_n hx hb dX11_poly_19 rfl (lv_at hl 1 rfl) ?_
    refine sm_get (ci := 11) (C := RX11) (T := TX11) (N := 11) (v := .ref (adr (a0 + 12))) hx hb hts hin11 hown hE hP ha0 rfl rfl 3 (by decide) (hts (.fieldLink RX11 26 "OrderMover" "slots" "[LOrderMover$Slot;") (by decide +kernel)) (fun _ h9 => h9) rfl dX11_poly_20 ?_
    refine lv_iload_n hx hb dX11_poly_23 rfl (lv_at hl 2 rfl) ?_
    obtain ⟨c24_1566, h⟩ := sm_ck h
    refine sm_aald24 hx hb hE hP (t11_3 ha0) c24_1566 dX11_poly_24 ?_
    refine sm_get (ci := 8) (C := RX8) (T := TX8) (N := 4) (v := .ref (adr (((a0 + 12) + 1 + 20 * (x1).toNatClampNeg) + 1))) hx hb hts hin8 hown hE hP (te24 (t11_3 ha0) c24_1566) rfl rfl 1 (by decide) (hts (.fieldLink RX11 255 "OrderMover$Slot" "polynomial" "LOrderMover$Polynomial;") (by decide +kernel)) (fun _ h9 => h9) rfl dX11_poly_25 ?_
    obtain ⟨M28_1568, hc28_1569, h⟩ := sm_bd h
    refine sm_cv (va_runV (As := []) (rest := []) ⟨hx, hb, hml, hown, hts⟩ (k_X5_empty l D cA adr hJ (((a0 + 12) + 1 + 20 * (x1).toNatClampNeg) + 1) (t8_1 (te24 (t11_3 ha0) c24_1566)) M M28_1568 hc28_1569) (cwV 0 hts gX11_poly_X5_empty rfl rfl rfl (by decide +kernel) ⟨Nat.le_of_ble_eq_true rfl, Nat.le_of_ble_eq_true rfl⟩) ⟨smPc_bl, smRv hE hP (t8_1 (te24 (t11_3 ha0) c24_1566)) rfl (ci := 5) (q := (RX5, TX5, 4)) rfl, smPc_in [.ref (adr (((a0 + 12) + 1 + 20 * (x1).toNatClampNeg) + 1))] hE hP⟩ rfl rfl hl.1 rfl (lv_room (Nat.le_of_ble_eq_true rfl)) dX11_poly_28 ⟨Nat.zero_le _, Nat.zero_le _⟩) hS (fun H locs hP hS => ?_)
    refine lv_aload_n hx hb dX11_poly_31 rfl (lv_at hl 1 rfl) ?_
    refine sm_get (ci := 11) (C := RX11) (T := TX11) (N := 11) (v := .ref (adr (a0 + 12))) hx hb hts hin11 hown hE hP ha0 rfl rfl 3 (by decide) (hts (.fieldLink RX11 26 "OrderMover" "slots" "[LOrderMover$Slot;") (by decide +kernel)) (fun _ h9 => h9) rfl dX11_poly_32 ?_
    refine lv_iload_n hx hb dX11_poly_35 rfl (lv_at hl 2 rfl) ?_
    obtain ⟨c36_1570, h⟩ := sm_ck h
    refine sm_aald24 hx hb hE hP (t11_3 ha0) c36_1570 dX11_poly_36 ?_
    refine lv_iconst (v := (1 : Int32)) hx hb dX11_poly_37 (by decide) ?_
    refine sm_put (ci := 8) (C := RX8) (T := TX8) (N := 4) (ty := .int) hx hb hts hin8 tyX8 tyX8_ok nmX8 hown hE hJ hP hS (te24 (t11_3 ha0) c36_1570) rfl rfl 0 (by decide) (hts (.fieldLink RX11 252 "OrderMover$Slot" "holds" "I") (by decide +kernel)) (fun _ h9 => h9) rfl (by decide +kernel) rfl rfl (Nat.le_of_ble_eq_true rfl) rfl dX11_poly_38 (fun H locs hP hS => ?_)
    obtain ⟨M38_1571, hM, h⟩ := sm_lt h
    rw [← hM] at hP; clear hM
    refine lv_iload_n hx hb dX11_poly_41 rfl (lv_at hl 0 rfl) ?_
    cases h
    exact sm_iret hx hb hr hlocks hP hS dX11_poly_42
  · rw [if_pos c4_1564] at h
    refine lv_iconst (v := (-1 : Int32)) hx hb dX11_poly_7 (by decide) ?_
    cases h
    exact sm_iret hx hb hr hlocks hP hS dX11_poly_8
set_option maxHeartbeats 4000000 in
set_option maxRecDepth 100000 in
theorem k_X11_put (l : Launch) (D : va_G) (cA : Nat → ClassId) (adr : Nat → Nat) (hJ : smJ 1 adr) (a0 : Nat) (x1 : Int32) (x2 : Int32) (x3 : Int32) (x4 : Int32) (ha0 : smT 1 a0 11) (M : smM) (v1 : Int32) (M1 : smM) (h : m_X11_put a0 x1 x2 x3 x4 M = some (v1, M1)) : Met l yX11_put wsX11_put ({ frames := 4, cells := 0, slots := 0, locals := 89 }) (smPc D cA 1 adr M [.ref (adr a0), .int x1, .int x2, .int x3, .int x4]) (smQi D cA 1 adr M1 v1) 0 0 (smA 1 adr) := by
  refine Met.ofW (cc := cX11_put) (maxL := 6) (ret := (some .int)) (by decide) rfl ?_
  intro p e s m args below meth c s₁ B hml hv
  obtain ⟨rfl, hE, hP⟩ := hv
  have hx := B.exec
  have hb := B.bytes
  have hr := B.returns
  have hts := atoms_spec (ws := wsX11_put) B.pre
  have hown : s.vm.findClass RX11 = some m.cls := findClass_of_methodNamed B.named
  have hlocks := B.notSynchronized
  have hS : va_S (smA 1 adr) s.heap s.heap [] := va_S.rf
  have hP : smP D cA 1 adr M s.heap := hP
  have hl := lv_entry ([.ref (adr a0), .int x1, .int x2, .int x3, .int x4]) (n := 6) (Nat.le_of_ble_eq_true rfl)
  rw [lg_entry_eq]
  generalize (lg_sl ([.ref (adr a0), .int x1, .int x2, .int x3, .int x4]) ++ List.replicate (6 - (lg_sl ([.ref (adr a0), .int x1, .int x2, .int x3, .int x4])).length) Slot.unset).toArray = ls at hl ⊢
  have hl : lv_has ls 6 [(0, .ref (adr a0)), (1, .int x1), (2, .int x2), (3, .int x3), (4, .int x4)] := hl
  unfold m_X11_put at h
  have hin11 : ∀ w ∈ u_ws RX11 TX11 11, w ∈ wsX11_put := by decide +kernel
  refine lv_aload_n hx hb dX11_put_0 rfl (lv_at hl 0 rfl) ?_
  refine sm_get (ci := 11) (C := RX11) (T := TX11) (N := 11) (v := .ref (adr (a0 + 1))) hx hb hts hin11 hown hE hP ha0 rfl rfl 0 (by decide) (hts (.fieldLink RX11 12 "OrderMover" "setting" "LOrderMover$Setting;") (by decide +kernel)) (fun _ h9 => h9) rfl dX11_put_1 ?_
  refine lv_iload_n hx hb dX11_put_4 rfl (lv_at hl 1 rfl) ?_
  refine lv_iload_n hx hb dX11_put_5 rfl (lv_at hl 2 rfl) ?_
  refine lv_iload_n hx hb dX11_put_6 rfl (lv_at hl 3 rfl) ?_
  obtain ⟨v7_1572, hc7_1574, h⟩ := sm_bd h
  refine sm_ci (va_runV (As := [.int x1, .int x2, .int x3]) (rest := []) ⟨hx, hb, hml, hown, hts⟩ (k_X7_hasCoefficient l D cA adr hJ (a0 + 1) x1 x2 x3 (t11_0 ha0) M v7_1572 hc7_1574) (cwV 3 hts gX11_put_X7_hasCoefficient rfl rfl rfl (by decide +kernel) ⟨Nat.le_of_ble_eq_true rfl, Nat.le_of_ble_eq_true rfl⟩) ⟨smPc_bl, smRv hE hP (t11_0 ha0) rfl (ci := 7) (q := (RX7, TX7, 7)) rfl, smPc_in [.ref (adr (a0 + 1)), .int x1, .int x2, .int x3] hE hP⟩ rfl rfl hl.1 rfl (lv_room (Nat.le_of_ble_eq_true rfl)) dX11_put_7 ⟨Nat.zero_le _, Nat.zero_le _⟩) hS (fun H locs hP hS => ?_)
  refine lv_if_eq (tgt := 22) hx hb dX11_put_10 (by decide) (fun c10_1575 => ?_) (fun c10_1575 => ?_)
  · rw [if_pos c10_1575] at h
    refine lv_iconst (v := (-1 : Int32)) hx hb dX11_put_22 (by decide) ?_
    cases h
    exact sm_iret hx hb hr hlocks hP hS dX11_put_23
  · rw [if_neg c10_1575] at h
    refine lv_aload_n hx hb dX11_put_13 rfl (lv_at hl 0 rfl) ?_
    refine lv_iload hx hb dX11_put_14 (lv_at hl 4 rfl) ?_
    obtain ⟨v16_1576, hc16_1578, h⟩ := sm_bd h
    refine sm_ci (va_runV (As := [.int x4]) (rest := []) ⟨hx, hb, hml, hown, hts⟩ (k_X11_isNumber l D cA adr hJ a0 x4 ha0 M v16_1576 hc16_1578) (cwV 1 hts gX11_put_X11_isNumber rfl rfl rfl (by decide +kernel) ⟨Nat.le_of_ble_eq_true rfl, Nat.le_of_ble_eq_true rfl⟩) ⟨smPc_bl, smRv hE hP ha0 rfl (ci := 11) (q := (RX11, TX11, 11)) rfl, smPc_in [.ref (adr a0), .int x4] hE hP⟩ rfl rfl hl.1 rfl (lv_room (Nat.le_of_ble_eq_true rfl)) dX11_put_16 ⟨Nat.zero_le _, Nat.zero_le _⟩) hS (fun H locs hP hS => ?_)
    refine lv_if_ne (tgt := 24) hx hb dX11_put_19 (by decide) (fun c19_1579 => ?_) (fun c19_1579 => ?_)
    · rw [if_neg c19_1579] at h
      refine lv_aload_n hx hb dX11_put_24 rfl (lv_at hl 0 rfl) ?_
      refine sm_get (ci := 11) (C := RX11) (T := TX11) (N := 11) (v := .ref (adr (a0 + 1))) hx hb hts hin11 hown hE hP ha0 rfl rfl 0 (by decide) (hts (.fieldLink RX11 12 "OrderMover" "setting" "LOrderMover$Setting;") (by decide +kernel)) (fun _ h9 => h9) rfl dX11_put_25 ?_
      refine lv_iload_n hx hb dX11_put_28 rfl (lv_at hl 1 rfl) ?_
      refine lv_iload_n hx hb dX11_put_29 rfl (lv_at hl 2 rfl) ?_
      refine lv_iload_n hx hb dX11_put_30 rfl (lv_at hl 3 rfl) ?_
      obtain ⟨v31_1580, hc31_1582, h⟩ := sm_bd h
      refine sm_ci (va_runV (As := [.int x1, .int x2, .int x3]) (rest := []) ⟨hx, hb, hml, hown, hts⟩ (k_X7_coefficient l D cA adr hJ (a0 + 1) x1 x2 x3 (t11_0 ha0) M v31_1580 hc31_1582) (cwV 3 hts gX11_put_X7_coefficient rfl rfl rfl (by decide +kernel) ⟨Nat.le_of_ble_eq_true rfl, Nat.le_of_ble_eq_true rfl⟩) ⟨smPc_bl, smRv hE hP (t11_0 ha0) rfl (ci := 7) (q := (RX7, TX7, 7)) rfl, smPc_in [.ref (adr (a0 + 1)), .int x1, .int x2, .int x3] hE hP⟩ rfl rfl hl.1 rfl (lv_room (Nat.le_of_ble_eq_true rfl)) dX11_put_31 ⟨Nat.zero_le _, Nat.zero_le _⟩) hS (fun H locs hP hS => ?_)
      refine lv_istore (lv' := [(5, .int v31_1580), (0, .ref (adr a0)), (1, .int x1), (2, .int x2), (3, .int x3), (4, .int x4)]) hx hb dX11_put_34 hl (by decide) rfl (fun ls hl => ?_)
      refine lv_aload_n hx hb dX11_put_36 rfl (lv_at hl 1 rfl) ?_
      refine sm_get (ci := 11) (C := RX11) (T := TX11) (N := 11) (v := .ref (adr (a0 + 1))) hx hb hts hin11 hown hE hP ha0 rfl rfl 0 (by decide) (hts (.fieldLink RX11 12 "OrderMover" "setting" "LOrderMover$Setting;") (by decide +kernel)) (fun _ h9 => h9) rfl dX11_put_37 ?_
      refine lv_iload_n hx hb dX11_put_40 rfl (lv_at hl 2 rfl) ?_
      refine lv_iload_n hx hb dX11_put_41 rfl (lv_at hl 3 rfl) ?_
      refine lv_iload_n hx hb dX11_put_42 rfl (lv_at hl 4 rfl) ?_
      refine lv_iload hx hb dX11_put_43 (lv_at hl 5 rfl) ?_
      obtain ⟨M45_1584, hc45_1585, h⟩ := sm_bd h
      refine sm_cv (va_runV (As := [.int x1, .int x2, .int x3, .int x4]) (rest := []) ⟨hx, hb, hml, hown, hts⟩ (k_X7_change l D cA adr hJ (a0 + 1) x1 x2 x3 x4 (t11_0 ha0) M M45_1584 hc45_1585) (cwV 4 hts gX11_put_X7_change rfl rfl rfl (by decide +kernel) ⟨Nat.le_of_ble_eq_true rfl, Nat.le_of_ble_eq_true rfl⟩) ⟨smPc_bl, smRv hE hP (t11_0 ha0) rfl (ci := 7) (q := (RX7, TX7, 7)) rfl, smPc_in [.ref (adr (a0 + 1)), .int x1, .int x2, .int x3, .int x4] hE hP⟩ rfl rfl hl.1 rfl (lv_room (Nat.le_of_ble_eq_true rfl)) dX11_put_45 ⟨Nat.zero_le _, Nat.zero_le _⟩) hS (fun H locs hP hS => ?_)
      refine lv_aload_n hx hb dX11_put_48 rfl (lv_at hl 1 rfl) ?_
      refine sm_get (ci := 11) (C := RX11) (T := TX11) (N := 11) (v := .ref (adr (a0 + 93))) hx hb hts hin11 hown hE hP ha0 rfl rfl 4 (by decide) (hts (.fieldLink RX11 33 "OrderMover" "ideal" "LOrderMover$Ideal;") (by decide +kernel)) (fun _ h9 => h9) rfl dX11_put_49 ?_
      obtain ⟨M52_1587, hc52_1588, h⟩ := sm_bd h
      refine sm_cv (va_runV (As := []) (rest := []) ⟨hx, hb, hml, hown, hts⟩ (k_X2_forget l D cA adr hJ (a0 + 93) (t11_4 ha0) M45_1584 M52_1587 hc52_1588) (cwV 0 hts gX11_put_X2_forget rfl rfl rfl (by decide +kernel) ⟨Nat.le_of_ble_eq_true rfl, Nat.le_of_ble_eq_true rfl⟩) ⟨smPc_bl, smRv hE hP (t11_4 ha0) rfl (ci := 2) (q := (RX2, TX2, 9)) rfl, smPc_in [.ref (adr (a0 + 93))] hE hP⟩ rfl rfl hl.1 rfl (lv_room (Nat.le_of_ble_eq_true rfl)) dX11_put_52 ⟨Nat.zero_le _, Nat.zero_le _⟩) hS (fun H locs hP hS => ?_)
      refine lv_iload hx hb dX11_put_55 (lv_at hl 0 rfl) ?_
      cases h
      exact sm_iret hx hb hr hlocks hP hS dX11_put_57
    · rw [if_pos c19_1579] at h
      refine lv_iconst (v := (-1 : Int32)) hx hb dX11_put_22 (by decide) ?_
      cases h
      exact sm_iret hx hb hr hlocks hP hS dX11_put_23
set_option maxHeartbeats 4000000 in
set_option maxRecDepth 100000 in
theorem k_X11_reduce (l : Launch) (D : va_G) (cA : Nat → ClassId) (adr : Nat → Nat) (hJ : smJ 1 adr) (a0 : Nat) (x1 : Int32) (x2 : Int32) (ha0 : smT 1 a0 11) (M : smM) (v1 : Int32) (M1 : smM) (h : m_X11_reduce a0 x1 x2 M = some (v1, M1)) : Met l yX11_reduce wsX11_reduce ({ frames := 6, cells := 0, slots := 0, locals := 145 }) (smPc D cA 1 adr M [.ref (adr a0), .int x1, .int x2]) (smQi D cA 1 adr M1 v1) 0 0 (smA 1 adr) := by
  refine Met.ofW (cc := cX11_reduce) (maxL := 6) (ret := (some .int)) (by decide) rfl ?_
  intro p e s m args below meth c s₁ B hml hv
  obtain ⟨rfl, hE, hP⟩ := hv
  have hx := B.exec
  have hb := B.bytes
  have hr := B.returns
  have hts := atoms_spec (ws := wsX11_reduce) B.pre
  have hown : s.vm.findClass RX11 = some m.cls := findClass_of_methodNamed B.named
  have hlocks := B.notSynchronized
  have hS : va_S (smA 1 adr) s.heap s.heap [] := va_S.rf
  have hP : smP D cA 1 adr M s.heap := hP
  have hl := lv_entry ([.ref (adr a0), .int x1, .int x2]) (n := 6) (Nat.le_of_ble_eq_true rfl)
  rw [lg_entry_eq]
  generalize (lg_sl ([.ref (adr a0), .int x1, .int x2]) ++ List.replicate (6 - (lg_sl ([.ref (adr a0), .int x1, .int x2])).length) Slot.unset).toArray = ls at hl ⊢
  have hl : lv_has ls 6 [(0, .ref (adr a0)), (1, .int x1), (2, .int x2)] := hl
  unfold m_X11_reduce at h
  have hin0 : ∀ w ∈ u_ws RX0 TX0 9, w ∈ wsX11_reduce := by decide +kernel
  have hin7 : ∀ w ∈ u_ws RX7 TX7 7, w ∈ wsX11_reduce := by decide +kernel
  have hin8 : ∀ w ∈ u_ws RX8 TX8 4, w ∈ wsX11_reduce := by decide +kernel
  have hin9 : ∀ w ∈ u_ws RX9 TX9 5, w ∈ wsX11_reduce := by decide +kernel
  have hin11 : ∀ w ∈ u_ws RX11 TX11 11, w ∈ wsX11_reduce := by decide +kernel
  refine lv_iload_n hx hb dX11_reduce_0 rfl (lv_at hl 1 rfl) ?_
  obtain ⟨v1_1589, hc1_1591, h⟩ := sm_bd h
  refine sm_ci (va_runS (As := [.int x1]) (rest := []) ⟨hx, hb, hml, hown, hts⟩ (k_X11_isSlot l D cA adr hJ x1  M v1_1589 hc1_1591) (va_cwS 1 hts gX11_reduce_X11_isSlot rfl rfl rfl (by decide +kernel) ⟨Nat.le_of_ble_eq_true rfl, Nat.le_of_ble_eq_true rfl⟩) ⟨smPc_bl, smPc_in [.int x1] hE hP⟩ rfl rfl hl.1 rfl (lv_room (Nat.le_of_ble_eq_true rfl)) dX11_reduce_1 ⟨Nat.zero_le _, Nat.zero_le _⟩) hS (fun H locs hP hS => ?_)
  refine lv_if_eq (tgt := 14) hx hb dX11_reduce_4 (by decide) (fun c4_1592 => ?_) (fun c4_1592 => ?_)
  · rw [if_pos c4_1592] at h
    refine lv_iconst (v := (-1 : Int32)) hx hb dX11_reduce_14 (by decide) ?_
    cases h
    exact sm_iret hx hb hr hlocks hP hS dX11_reduce_15
  · rw [if_neg c4_1592] at h
    refine lv_iload_n hx hb dX11_reduce_7 rfl (lv_at hl 2 rfl) ?_
    obtain ⟨v8_1593, hc8_1595, h⟩ := sm_bd h
    refine sm_ci (va_runS (As := [.int x2]) (rest := []) ⟨hx, hb, hml, hown, hts⟩ (k_X11_isOrder l D cA adr hJ x2  M v8_1593 hc8_1595) (va_cwS 1 hts gX11_reduce_X11_isOrder rfl rfl rfl (by decide +kernel) ⟨Nat.le_of_ble_eq_true rfl, Nat.le_of_ble_eq_true rfl⟩) ⟨smPc_bl, smPc_in [.int x2] hE hP⟩ rfl rfl hl.1 rfl (lv_room (Nat.le_of_ble_eq_true rfl)) dX11_reduce_8 ⟨Nat.zero_le _, Nat.zero_le _⟩) hS (fun H locs hP hS => ?_)
    refine lv_if_ne (tgt := 16) hx hb dX11_reduce_11 (by decide) (fun c11_1596 => ?_) (fun c11_1596 => ?_)
    · rw [if_neg c11_1596] at h
      refine lv_aload_n hx hb dX11_reduce_16 rfl (lv_at hl 0 rfl) ?_
      refine sm_get (ci := 11) (C := RX11) (T := TX11) (N := 11) (v := .ref (adr (a0 + 12))) hx hb hts hin11 hown hE hP ha0 rfl rfl 3 (by decide) (hts (.fieldLink RX11 26 "OrderMover" "slots" "[LOrderMover$Slot;") (by decide +kernel)) (fun _ h9 => h9) rfl dX11_reduce_17 ?_
      refine lv_iload_n hx hb dX11_reduce_20 rfl (lv_at hl 1 rfl) ?_
      obtain ⟨c21_1597, h⟩ := sm_ck h
      refine sm_aald24 hx hb hE hP (t11_3 ha0) c21_1597 dX11_reduce_21 ?_
      refine lv_iconst (v := (1 : Int32)) hx hb dX11_reduce_22 (by decide) ?_
      obtain ⟨v23_1598, hc23_1600, h⟩ := sm_bd h
      refine sm_ci (va_runV (As := [.int (1 : Int32)]) (rest := []) ⟨hx, hb, hml, hown, hts⟩ (k_X8_findWanting l D cA adr hJ ((a0 + 12) + 1 + 20 * (x1).toNatClampNeg) (1 : Int32) (te24 (t11_3 ha0) c21_1597) M v23_1598 hc23_1600) (cwV 1 hts gX11_reduce_X8_findWanting rfl rfl rfl (by decide +kernel) ⟨Nat.le_of_ble_eq_true rfl, Nat.le_of_ble_eq_true rfl⟩) ⟨smPc_bl, smRv hE hP (te24 (t11_3 ha0) c21_1597) rfl (ci := 8) (q := (RX8, TX8, 4)) rfl, smPc_in [.ref (adr ((a0 + 12) + 1 + 20 * (x1).toNatClampNeg)), .int (1 : Int32)] hE hP⟩ rfl rfl hl.1 rfl (lv_room (Nat.le_of_ble_eq_true rfl)) dX11_reduce_23 ⟨Nat.zero_le _, Nat.zero_le _⟩) hS (fun H locs hP hS => ?_)
      refine lv_istore_n (lv' := [(3, .int v23_1598), (0, .ref (adr a0)), (1, .int x1), (2, .int x2)]) hx hb dX11_reduce_26 rfl hl (by decide) rfl (fun ls hl => ?_)
      refine lv_iload_n hx hb dX11_reduce_27 rfl (lv_at hl 0 rfl) ?_
      refine lv_if_eq (tgt := 33) hx hb dX11_reduce_28 (by decide) (fun c28_1601 => ?_) (fun c28_1601 => ?_)
      · rw [if_pos c28_1601] at h
        refine lv_aload_n hx hb dX11_reduce_33 rfl (lv_at hl 1 rfl) ?_
        refine lv_aload_n hx hb dX11_reduce_34 rfl (lv_at hl 1 rfl) ?_
        refine sm_get (ci := 11) (C := RX11) (T := TX11) (N := 11) (v := .ref (adr (a0 + 12))) hx hb hts hin11 hown hE hP ha0 rfl rfl 3 (by decide) (hts (.fieldLink RX11 26 "OrderMover" "slots" "[LOrderMover$Slot;") (by decide +kernel)) (fun _ h9 => h9) rfl dX11_reduce_35 ?_
        refine lv_iload_n hx hb dX11_reduce_38 rfl (lv_at hl 2 rfl) ?_
        obtain ⟨c39_1602, h⟩ := sm_ck h
        refine sm_aald24 hx hb hE hP (t11_3 ha0) c39_1602 dX11_reduce_39 ?_
        refine sm_get (ci := 8) (C := RX8) (T := TX8) (N := 4) (v := .ref (adr (((a0 + 12) + 1 + 20 * (x1).toNatClampNeg) + 1))) hx hb hts hin8 hown hE hP (te24 (t11_3 ha0) c39_1602) rfl rfl 1 (by decide) (hts (.fieldLink RX11 255 "OrderMover$Slot" "polynomial" "LOrderMover$Polynomial;") (by decide +kernel)) (fun _ h9 => h9) rfl dX11_reduce_40 ?_
        obtain ⟨M43_1604, hc43_1605, h⟩ := sm_bd h
        refine sm_cv (va_runV (As := [.ref (adr (((a0 + 12) + 1 + 20 * (x1).toNatClampNeg) + 1))]) (rest := []) ⟨hx, hb, hml, hown, hts⟩ (k_X11_sumVectors l D cA adr hJ a0 (((a0 + 12) + 1 + 20 * (x1).toNatClampNeg) + 1) ha0 (t8_1 (te24 (t11_3 ha0) c39_1602)) M M43_1604 hc43_1605) (cwV 1 hts gX11_reduce_X11_sumVectors rfl rfl rfl (by decide +kernel) ⟨Nat.le_of_ble_eq_true rfl, Nat.le_of_ble_eq_true rfl⟩) ⟨smPc_bl, smRv hE hP ha0 rfl (ci := 11) (q := (RX11, TX11, 11)) rfl, smPc_in [.ref (adr a0), .ref (adr (((a0 + 12) + 1 + 20 * (x1).toNatClampNeg) + 1))] hE hP⟩ rfl rfl hl.1 rfl (lv_room (Nat.le_of_ble_eq_true rfl)) dX11_reduce_43 ⟨Nat.zero_le _, Nat.zero_le _⟩) hS (fun H locs hP hS => ?_)
        refine lv_aload_n hx hb dX11_reduce_46 rfl (lv_at hl 1 rfl) ?_
        refine lv_iload_n hx hb dX11_reduce_47 rfl (lv_at hl 3 rfl) ?_
        obtain ⟨v48_1606, M48_1607, hc48_1608, h⟩ := sm_bd2 h
        refine sm_cr (va_runV (As := [.int x2]) (rest := []) ⟨hx, hb, hml, hown, hts⟩ (k_X11_baseIn l D cA adr hJ a0 x2 ha0 M43_1604 v48_1606 M48_1607 hc48_1608) (cwV 1 hts gX11_reduce_X11_baseIn rfl rfl rfl (by decide +kernel) ⟨Nat.le_of_ble_eq_true rfl, Nat.le_of_ble_eq_true rfl⟩) ⟨smPc_bl, smRv hE hP ha0 rfl (ci := 11) (q := (RX11, TX11, 11)) rfl, smPc_in [.ref (adr a0), .int x2] hE hP⟩ rfl rfl hl.1 rfl (lv_room (Nat.le_of_ble_eq_true rfl)) dX11_reduce_48 ⟨Nat.zero_le _, Nat.zero_le _⟩) hS (fun H locs hk48_1609 hP hS => ?_)
        refine lv_astore (lv' := [(4, .ref (adr v48_1606)), (3, .int v23_1598), (0, .ref (adr a0)), (1, .int x1), (2, .int x2)]) hx hb dX11_reduce_51 hl (by decide) rfl (fun ls hl => ?_)
        refine lv_aload hx hb dX11_reduce_53 (lv_at hl 0 rfl) ?_
        refine sm_get (ci := 0) (C := RX0) (T := TX0) (N := 9) (v := .ref (adr (v48_1606 + 16))) hx hb hts hin0 hown hE hP hk48_1609 rfl rfl 2 (by decide) (hts (.fieldLink RX11 205 "OrderMover$Base" "span" "LOrderMover$Span;") (by decide +kernel)) (fun _ h9 => h9) rfl dX11_reduce_55 ?_
        refine lv_aload_n hx hb dX11_reduce_58 rfl (lv_at hl 2 rfl) ?_
        refine sm_get (ci := 11) (C := RX11) (T := TX11) (N := 11) (v := .ref (adr (a0 + 505))) hx hb hts hin11 hown hE hP ha0 rfl rfl 9 (by decide) (hts (.fieldLink RX11 64 "OrderMover" "sum" "[I") (by decide +kernel)) (fun _ h9 => h9) rfl dX11_reduce_59 ?_
        refine lv_aload_n hx hb dX11_reduce_62 rfl (lv_at hl 2 rfl) ?_
        refine sm_get (ci := 11) (C := RX11) (T := TX11) (N := 11) (v := .ref (adr (a0 + 506))) hx hb hts hin11 hown hE hP ha0 rfl rfl 10 (by decide) (hts (.fieldLink RX11 67 "OrderMover" "form" "[I") (by decide +kernel)) (fun _ h9 => h9) rfl dX11_reduce_63 ?_
        obtain ⟨M66_1611, hc66_1612, h⟩ := sm_bd h
        refine sm_cv (va_runV (As := [.ref (adr (a0 + 505)), .ref (adr (a0 + 506))]) (rest := []) ⟨hx, hb, hml, hown, hts⟩ (k_X9_express l D cA adr hJ (v48_1606 + 16) (a0 + 505) (a0 + 506) (t0_2 hk48_1609) (t11_9 ha0) (t11_10 ha0) M48_1607 M66_1611 hc66_1612) (cwV 2 hts gX11_reduce_X9_express rfl rfl rfl (by decide +kernel) ⟨Nat.le_of_ble_eq_true rfl, Nat.le_of_ble_eq_true rfl⟩) ⟨smPc_bl, smRv hE hP (t0_2 hk48_1609) rfl (ci := 9) (q := (RX9, TX9, 5)) rfl, smPc_in [.ref (adr (v48_1606 + 16)), .ref (adr (a0 + 505)), .ref (adr (a0 + 506))] hE hP⟩ rfl rfl hl.1 rfl (lv_room (Nat.le_of_ble_eq_true rfl)) dX11_reduce_66 ⟨Nat.zero_le _, Nat.zero_le _⟩) hS (fun H locs hP hS => ?_)
        refine lv_aload_n hx hb dX11_reduce_69 rfl (lv_at hl 2 rfl) ?_
        refine sm_get (ci := 11) (C := RX11) (T := TX11) (N := 11) (v := .ref (adr (a0 + 500))) hx hb hts hin11 hown hE hP ha0 rfl rfl 7 (by decide) (hts (.fieldLink RX11 56 "OrderMover" "scratch" "LOrderMover$Polynomial;") (by decide +kernel)) (fun _ h9 => h9) rfl dX11_reduce_70 ?_
        obtain ⟨M73_1614, hc73_1615, h⟩ := sm_bd h
        refine sm_cv (va_runV (As := []) (rest := []) ⟨hx, hb, hml, hown, hts⟩ (k_X5_empty l D cA adr hJ (a0 + 500) (t11_7 ha0) M66_1611 M73_1614 hc73_1615) (cwV 0 hts gX11_reduce_X5_empty rfl rfl rfl (by decide +kernel) ⟨Nat.le_of_ble_eq_true rfl, Nat.le_of_ble_eq_true rfl⟩) ⟨smPc_bl, smRv hE hP (t11_7 ha0) rfl (ci := 5) (q := (RX5, TX5, 4)) rfl, smPc_in [.ref (adr (a0 + 500))] hE hP⟩ rfl rfl hl.1 rfl (lv_room (Nat.le_of_ble_eq_true rfl)) dX11_reduce_73 ⟨Nat.zero_le _, Nat.zero_le _⟩) hS (fun H locs hP hS => ?_)
        refine lv_iconst (v := (0 : Int32)) hx hb dX11_reduce_76 (by decide) ?_
        refine lv_istore (lv' := [(5, .int (0 : Int32)), (4, .ref (adr v48_1606)), (3, .int v23_1598), (0, .ref (adr a0)), (1, .int x1), (2, .int x2)]) hx hb dX11_reduce_77 hl (by decide) rfl (fun ls hl => ?_)
        refine sm_lp (b := fun rc q => m_X11_reduce_b79 a0 x1 v48_1606 rc q.1 q.2) (P := fun (q : Int32 × smM) H locs ls => smP D cA 1 adr q.2 H ∧ va_S (smA 1 adr) s.heap H locs ∧ lv_has ls 6 [(0, .ref (adr a0)), (1, .int x1), (4, .ref (adr v48_1606)), (5, .int q.1)]) (pc := 79) ?_ _ _ _ _ _ h ⟨hP, hS, lv_sub hl [3, 4, 1, 0] rfl⟩
        intro rc79_1618 ih79_1619 q H locs ls h hI
        obtain ⟨x5_79_1616, M79_1617⟩ := q
        obtain ⟨hP, hS, hl⟩ := hI
        have hP : smP D cA 1 adr M79_1617 H := hP
        have hl : lv_has ls 6 [(0, .ref (adr a0)), (1, .int x1), (4, .ref (adr v48_1606)), (5, .int x5_79_1616)] := hl
        have h : m_X11_reduce_b79 a0 x1 v48_1606 rc79_1618 x5_79_1616 M79_1617 = some _ := h
        unfold m_X11_reduce_b79 at h
        refine lv_iload hx hb dX11_reduce_79 (lv_at hl 3 rfl) ?_
        refine lv_aload hx hb dX11_reduce_81 (lv_at hl 2 rfl) ?_
        refine sm_get (ci := 0) (C := RX0) (T := TX0) (N := 9) (v := .ref (adr (v48_1606 + 16))) hx hb hts hin0 hown hE hP hk48_1609 rfl rfl 2 (by decide) (hts (.fieldLink RX11 205 "OrderMover$Base" "span" "LOrderMover$Span;") (by decide +kernel)) (fun _ h9 => h9) rfl dX11_reduce_83 ?_
        refine sm_get (ci := 9) (C := RX9) (T := TX9) (N := 5) (v := .int (M79_1617 (v48_1606 + 16) 0)) hx hb hts hin9 hown hE hP (t0_2 hk48_1609) rfl rfl 0 (by decide) (hts (.fieldLink RX11 314 "OrderMover$Span" "howMany" "I") (by decide +kernel)) (fun _ h9 => h9) rfl dX11_reduce_86 ?_
        refine lv_icmp_ge (tgt := 135) hx hb dX11_reduce_89 (by decide) (fun c89_1620 => ?_) (fun c89_1620 => ?_)
        · rw [if_pos c89_1620] at h
          refine lv_aload_n hx hb dX11_reduce_135 rfl (lv_at hl 0 rfl) ?_
          refine lv_iload_n hx hb dX11_reduce_136 rfl (lv_at hl 1 rfl) ?_
          obtain ⟨v137_1621, M137_1622, hc137_1623, h⟩ := sm_bd2 h
          refine sm_ci (va_runV (As := [.int x1]) (rest := []) ⟨hx, hb, hml, hown, hts⟩ (k_X11_settle l D cA adr hJ a0 x1 ha0 M79_1617 v137_1621 M137_1622 hc137_1623) (cwV 1 hts gX11_reduce_X11_settle rfl rfl rfl (by decide +kernel) ⟨Nat.le_of_ble_eq_true rfl, Nat.le_of_ble_eq_true rfl⟩) ⟨smPc_bl, smRv hE hP ha0 rfl (ci := 11) (q := (RX11, TX11, 11)) rfl, smPc_in [.ref (adr a0), .int x1] hE hP⟩ rfl rfl hl.1 rfl (lv_room (Nat.le_of_ble_eq_true rfl)) dX11_reduce_137 ⟨Nat.zero_le _, Nat.zero_le _⟩) hS (fun H locs hP hS => ?_)
          cases h
          exact sm_iret hx hb hr hlocks hP hS dX11_reduce_140
        · rw [if_neg c89_1620] at h
          refine lv_aload_n hx hb dX11_reduce_92 rfl (lv_at hl 0 rfl) ?_
          refine sm_get (ci := 11) (C := RX11) (T := TX11) (N := 11) (v := .ref (adr (a0 + 500))) hx hb hts hin11 hown hE hP ha0 rfl rfl 7 (by decide) (hts (.fieldLink RX11 56 "OrderMover" "scratch" "LOrderMover$Polynomial;") (by decide +kernel)) (fun _ h9 => h9) rfl dX11_reduce_93 ?_
          refine lv_aload_n hx hb dX11_reduce_96 rfl (lv_at hl 0 rfl) ?_
          refine sm_get (ci := 11) (C := RX11) (T := TX11) (N := 11) (v := .ref (adr (a0 + 506))) hx hb hts hin11 hown hE hP ha0 rfl rfl 10 (by decide) (hts (.fieldLink RX11 67 "OrderMover" "form" "[I") (by decide +kernel)) (fun _ h9 => h9) rfl dX11_reduce_97 ?_
          refine lv_iload hx hb dX11_reduce_100 (lv_at hl 3 rfl) ?_
          obtain ⟨c102_1624, h⟩ := sm_ck h
          refine sm_iald hx hb hE hP (t11_10 ha0) c102_1624 dX11_reduce_102 ?_
          refine lv_aload hx hb dX11_reduce_103 (lv_at hl 2 rfl) ?_
          refine sm_get (ci := 0) (C := RX0) (T := TX0) (N := 9) (v := .ref (adr (v48_1606 + 38))) hx hb hts hin0 hown hE hP hk48_1609 rfl rfl 3 (by decide) (hts (.fieldLink RX11 195 "OrderMover$Base" "stairXs" "[I") (by decide +kernel)) (fun _ h9 => h9) rfl dX11_reduce_105 ?_
          refine lv_iload hx hb dX11_reduce_108 (lv_at hl 3 rfl) ?_
          obtain ⟨c110_1625, h⟩ := sm_ck h
          refine sm_iald hx hb hE hP (t0_3 hk48_1609) c110_1625 dX11_reduce_110 ?_
          refine lv_aload hx hb dX11_reduce_111 (lv_at hl 2 rfl) ?_
          refine sm_get (ci := 0) (C := RX0) (T := TX0) (N := 9) (v := .ref (adr (v48_1606 + 39))) hx hb hts hin0 hown hE hP hk48_1609 rfl rfl 4 (by decide) (hts (.fieldLink RX11 198 "OrderMover$Base" "stairYs" "[I") (by decide +kernel)) (fun _ h9 => h9) rfl dX11_reduce_113 ?_
          refine lv_iload hx hb dX11_reduce_116 (lv_at hl 3 rfl) ?_
          obtain ⟨c118_1626, h⟩ := sm_ck h
          refine sm_iald hx hb hE hP (t0_4 hk48_1609) c118_1626 dX11_reduce_118 ?_
          refine lv_aload_n hx hb dX11_reduce_119 rfl (lv_at hl 0 rfl) ?_
          refine sm_get (ci := 11) (C := RX11) (T := TX11) (N := 11) (v := .ref (adr (a0 + 1))) hx hb hts hin11 hown hE hP ha0 rfl rfl 0 (by decide) (hts (.fieldLink RX11 12 "OrderMover" "setting" "LOrderMover$Setting;") (by decide +kernel)) (fun _ h9 => h9) rfl dX11_reduce_120 ?_
          refine sm_get (ci := 7) (C := RX7) (T := TX7) (N := 7) (v := .int (M79_1617 (a0 + 1) 0)) hx hb hts hin7 hown hE hP (t11_0 ha0) rfl rfl 0 (by decide) (hts (.fieldLink RX11 75 "OrderMover$Setting" "p" "I") (by decide +kernel)) (fun _ h9 => h9) rfl dX11_reduce_123 ?_
          obtain ⟨M126_1628, hc126_1629, h⟩ := sm_bd h
          refine sm_cv (va_runV (As := [.int (M79_1617 (a0 + 506) (x5_79_1616).toNatClampNeg), .int (M79_1617 (v48_1606 + 38) (x5_79_1616).toNatClampNeg), .int (M79_1617 (v48_1606 + 39) (x5_79_1616).toNatClampNeg), .int (M79_1617 (a0 + 1) 0)]) (rest := []) ⟨hx, hb, hml, hown, hts⟩ (k_X5_bring l D cA adr hJ (a0 + 500) (M79_1617 (a0 + 506) (x5_79_1616).toNatClampNeg) (M79_1617 (v48_1606 + 38) (x5_79_1616).toNatClampNeg) (M79_1617 (v48_1606 + 39) (x5_79_1616).toNatClampNeg) (M79_1617 (a0 + 1) 0) (t11_7 ha0) M79_1617 M126_1628 hc126_1629) (cwV 4 hts gX11_reduce_X5_bring rfl rfl rfl (by decide +kernel) ⟨Nat.le_of_ble_eq_true rfl, Nat.le_of_ble_eq_true rfl⟩) ⟨smPc_bl, smRv hE hP (t11_7 ha0) rfl (ci := 5) (q := (RX5, TX5, 4)) rfl, smPc_in [.ref (adr (a0 + 500)), .int (M79_1617 (a0 + 506) (x5_79_1616).toNatClampNeg), .int (M79_1617 (v48_1606 + 38) (x5_79_1616).toNatClampNeg), .int (M79_1617 (v48_1606 + 39) (x5_79_1616).toNatClampNeg), .int (M79_1617 (a0 + 1) 0)] hE hP⟩ rfl rfl hl.1 rfl (lv_room (Nat.le_of_ble_eq_true rfl)) dX11_reduce_126 ⟨Nat.zero_le _, Nat.zero_le _⟩) hS (fun H locs hP hS => ?_)
          refine lv_iinc (v := (x5_79_1616 + (1 : Int32))) (lv' := [(5, .int (x5_79_1616 + (1 : Int32))), (0, .ref (adr a0)), (1, .int x1), (4, .ref (adr v48_1606))]) hx hb dX11_reduce_129 hl (k := 3) rfl (congrArg (fun z => x5_79_1616 + z) (by decide)) (by decide) rfl (fun ls hl => ?_)
          refine lv_goto (tgt := 79) hx hb dX11_reduce_132 (by decide) ?_
          exact ih79_1619 ((x5_79_1616 + (1 : Int32)), M126_1628) _ _ _ h ⟨hP, hS, lv_sub hl [1, 2, 3, 0] rfl⟩
      · rw [if_neg c28_1601] at h
        refine lv_iload_n hx hb dX11_reduce_31 rfl (lv_at hl 0 rfl) ?_
        cases h
        exact sm_iret hx hb hr hlocks hP hS dX11_reduce_32
    · rw [if_pos c11_1596] at h
      refine lv_iconst (v := (-1 : Int32)) hx hb dX11_reduce_14 (by decide) ?_
      cases h
      exact sm_iret hx hb hr hlocks hP hS dX11_reduce_15
set_option maxHeartbeats 4000000 in
set_option maxRecDepth 100000 in
theorem k_X11_root (l : Launch) (D : va_G) (cA : Nat → ClassId) (adr : Nat → Nat) (hJ : smJ 1 adr) (a0 : Nat) (x1 : Int32) (x2 : Int32) (ha0 : smT 1 a0 11) (M : smM) (v1 : Int32) (M1 : smM) (h : m_X11_root a0 x1 x2 M = some (v1, M1)) : Met l yX11_root wsX11_root ({ frames := 6, cells := 0, slots := 0, locals := 143 }) (smPc D cA 1 adr M [.ref (adr a0), .int x1, .int x2]) (smQi D cA 1 adr M1 v1) 0 0 (smA 1 adr) := by
  refine Met.ofW (cc := cX11_root) (maxL := 3) (ret := (some .int)) (by decide) rfl ?_
  intro p e s m args below meth c s₁ B hml hv
  obtain ⟨rfl, hE, hP⟩ := hv
  have hx := B.exec
  have hb := B.bytes
  have hr := B.returns
  have hts := atoms_spec (ws := wsX11_root) B.pre
  have hown : s.vm.findClass RX11 = some m.cls := findClass_of_methodNamed B.named
  have hlocks := B.notSynchronized
  have hS : va_S (smA 1 adr) s.heap s.heap [] := va_S.rf
  have hP : smP D cA 1 adr M s.heap := hP
  have hl := lv_entry ([.ref (adr a0), .int x1, .int x2]) (n := 3) (Nat.le_of_ble_eq_true rfl)
  rw [lg_entry_eq]
  generalize (lg_sl ([.ref (adr a0), .int x1, .int x2]) ++ List.replicate (3 - (lg_sl ([.ref (adr a0), .int x1, .int x2])).length) Slot.unset).toArray = ls at hl ⊢
  have hl : lv_has ls 3 [(0, .ref (adr a0)), (1, .int x1), (2, .int x2)] := hl
  unfold m_X11_root at h
  have hin2 : ∀ w ∈ u_ws RX2 TX2 9, w ∈ wsX11_root := by decide +kernel
  have hin11 : ∀ w ∈ u_ws RX11 TX11 11, w ∈ wsX11_root := by decide +kernel
  refine lv_iload_n hx hb dX11_root_0 rfl (lv_at hl 1 rfl) ?_
  refine lv_if_lt (tgt := 11) hx hb dX11_root_1 (by decide) (fun c1_1630 => ?_) (fun c1_1630 => ?_)
  · rw [if_pos c1_1630] at h
    refine lv_iconst (v := (-1 : Int32)) hx hb dX11_root_11 (by decide) ?_
    cases h
    exact sm_iret hx hb hr hlocks hP hS dX11_root_12
  · rw [if_neg c1_1630] at h
    refine lv_iload_n hx hb dX11_root_4 rfl (lv_at hl 2 rfl) ?_
    obtain ⟨v5_1631, hc5_1633, h⟩ := sm_bd h
    refine sm_ci (va_runS (As := [.int x2]) (rest := []) ⟨hx, hb, hml, hown, hts⟩ (k_X11_isUnknown l D cA adr hJ x2  M v5_1631 hc5_1633) (va_cwS 1 hts gX11_root_X11_isUnknown rfl rfl rfl (by decide +kernel) ⟨Nat.le_of_ble_eq_true rfl, Nat.le_of_ble_eq_true rfl⟩) ⟨smPc_bl, smPc_in [.int x2] hE hP⟩ rfl rfl hl.1 rfl (lv_room (Nat.le_of_ble_eq_true rfl)) dX11_root_5 ⟨Nat.zero_le _, Nat.zero_le _⟩) hS (fun H locs hP hS => ?_)
    refine lv_if_ne (tgt := 13) hx hb dX11_root_8 (by decide) (fun c8_1634 => ?_) (fun c8_1634 => ?_)
    · rw [if_neg c8_1634] at h
      refine lv_iload_n hx hb dX11_root_13 rfl (lv_at hl 1 rfl) ?_
      refine lv_aload_n hx hb dX11_root_14 rfl (lv_at hl 0 rfl) ?_
      obtain ⟨v15_1635, M15_1636, hc15_1637, h⟩ := sm_bd2 h
      refine sm_cr (va_runV (As := []) (rest := [.int x1]) ⟨hx, hb, hml, hown, hts⟩ (k_X11_currentIdeal l D cA adr hJ a0 ha0 M v15_1635 M15_1636 hc15_1637) (cwV 0 hts gX11_root_X11_currentIdeal rfl rfl rfl (by decide +kernel) ⟨Nat.le_of_ble_eq_true rfl, Nat.le_of_ble_eq_true rfl⟩) ⟨smPc_bl, smRv hE hP ha0 rfl (ci := 11) (q := (RX11, TX11, 11)) rfl, smPc_in [.ref (adr a0)] hE hP⟩ rfl rfl hl.1 rfl (lv_room (Nat.le_of_ble_eq_true rfl)) dX11_root_15 ⟨Nat.zero_le _, Nat.zero_le _⟩) hS (fun H locs hk15_1638 hP hS => ?_)
      refine lv_aload_n hx hb dX11_root_18 rfl (lv_at hl 0 rfl) ?_
      refine sm_get (ci := 11) (C := RX11) (T := TX11) (N := 11) (v := .ref (adr (a0 + 1))) hx hb hts hin11 hown hE hP ha0 rfl rfl 0 (by decide) (hts (.fieldLink RX11 12 "OrderMover" "setting" "LOrderMover$Setting;") (by decide +kernel)) (fun _ h9 => h9) rfl dX11_root_19 ?_
      obtain ⟨v22_1639, M22_1640, hc22_1641, h⟩ := sm_bd2 h
      refine sm_ci (va_runV (As := [.ref (adr (a0 + 1))]) (rest := [.int x1]) ⟨hx, hb, hml, hown, hts⟩ (k_X2_countRoots l D cA adr hJ v15_1635 (a0 + 1) hk15_1638 (t11_0 ha0) M15_1636 v22_1639 M22_1640 hc22_1641) (cwV 1 hts gX11_root_X2_countRoots rfl rfl rfl (by decide +kernel) ⟨Nat.le_of_ble_eq_true rfl, Nat.le_of_ble_eq_true rfl⟩) ⟨smPc_bl, smRv hE hP hk15_1638 rfl (ci := 2) (q := (RX2, TX2, 9)) rfl, smPc_in [.ref (adr v15_1635), .ref (adr (a0 + 1))] hE hP⟩ rfl rfl hl.1 rfl (lv_room (Nat.le_of_ble_eq_true rfl)) dX11_root_22 ⟨Nat.zero_le _, Nat.zero_le _⟩) hS (fun H locs hP hS => ?_)
      refine lv_icmp_lt (tgt := 31) hx hb dX11_root_25 (by decide) (fun c25_1642 => ?_) (fun c25_1642 => ?_)
      · rw [if_pos c25_1642] at h
        refine lv_iload_n hx hb dX11_root_31 rfl (lv_at hl 2 rfl) ?_
        refine lv_if_ne (tgt := 47) hx hb dX11_root_32 (by decide) (fun c32_1643 => ?_) (fun c32_1643 => ?_)
        · rw [if_neg c32_1643] at h
          refine lv_aload_n hx hb dX11_root_47 rfl (lv_at hl 0 rfl) ?_
          refine sm_get (ci := 11) (C := RX11) (T := TX11) (N := 11) (v := .ref (adr (a0 + 93))) hx hb hts hin11 hown hE hP ha0 rfl rfl 4 (by decide) (hts (.fieldLink RX11 33 "OrderMover" "ideal" "LOrderMover$Ideal;") (by decide +kernel)) (fun _ h9 => h9) rfl dX11_root_48 ?_
          refine sm_get (ci := 2) (C := RX2) (T := TX2) (N := 9) (v := .ref (adr ((a0 + 93) + 54))) hx hb hts hin2 hown hE hP (t11_4 ha0) rfl rfl 3 (by decide) (hts (.fieldLink RX11 246 "OrderMover$Ideal" "rootYs" "[I") (by decide +kernel)) (fun _ h9 => h9) rfl dX11_root_51 ?_
          refine lv_iload_n hx hb dX11_root_54 rfl (lv_at hl 1 rfl) ?_
          obtain ⟨c55_1644, h⟩ := sm_ck h
          refine sm_iald hx hb hE hP (t2_3 (t11_4 ha0)) c55_1644 dX11_root_55 ?_
          cases h
          exact sm_iret hx hb hr hlocks hP hS dX11_root_56
        · rw [if_pos c32_1643] at h
          refine lv_aload_n hx hb dX11_root_35 rfl (lv_at hl 0 rfl) ?_
          refine sm_get (ci := 11) (C := RX11) (T := TX11) (N := 11) (v := .ref (adr (a0 + 93))) hx hb hts hin11 hown hE hP ha0 rfl rfl 4 (by decide) (hts (.fieldLink RX11 33 "OrderMover" "ideal" "LOrderMover$Ideal;") (by decide +kernel)) (fun _ h9 => h9) rfl dX11_root_36 ?_
          refine sm_get (ci := 2) (C := RX2) (T := TX2) (N := 9) (v := .ref (adr ((a0 + 93) + 53))) hx hb hts hin2 hown hE hP (t11_4 ha0) rfl rfl 2 (by decide) (hts (.fieldLink RX11 243 "OrderMover$Ideal" "rootXs" "[I") (by decide +kernel)) (fun _ h9 => h9) rfl dX11_root_39 ?_
          refine lv_iload_n hx hb dX11_root_42 rfl (lv_at hl 1 rfl) ?_
          obtain ⟨c43_1645, h⟩ := sm_ck h
          refine sm_iald hx hb hE hP (t2_2 (t11_4 ha0)) c43_1645 dX11_root_43 ?_
          refine lv_goto (tgt := 56) hx hb dX11_root_44 (by decide) ?_
          cases h
          exact sm_iret hx hb hr hlocks hP hS dX11_root_56
      · rw [if_neg c25_1642] at h
        refine lv_bipush (v := (-4 : Int32)) hx hb dX11_root_28 (by decide) ?_
        cases h
        exact sm_iret hx hb hr hlocks hP hS dX11_root_30
    · rw [if_pos c8_1634] at h
      refine lv_iconst (v := (-1 : Int32)) hx hb dX11_root_11 (by decide) ?_
      cases h
      exact sm_iret hx hb hr hlocks hP hS dX11_root_12
