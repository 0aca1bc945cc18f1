set_option maxHeartbeats 4000000 in
set_option maxRecDepth 100000 in
theorem k_X11_size (l : Launch) (D : va_G) (cA : Nat → ClassId) (adr : Nat → Nat) (hJ : smJ 1 adr) (a0 : Nat) (x1 : Int32) (ha0 : smT 1 a0 11) (M : smM) (v1 : Int32) (h : m_X11_size a0 x1 M = some v1) : Met l yX11_size wsX11_size ({ frames := 2, cells := 0, slots := 0, locals := 42 }) (smPc D cA 1 adr M [.ref (adr a0), .int x1]) (smQi D cA 1 adr M v1) 0 0 (smA 1 adr) := by
  refine Met.ofW (cc := cX11_size) (maxL := 2) (ret := (some .int)) (by decide) rfl ?_
  intro p e s m args below meth c s₁ B hml hv
  obtain ⟨rfl, hE, hP⟩ := hv
  have hx := B.exec
  have hb := B.bytes
  have hr := B.returns
  have hts := atoms_spec (ws := wsX11_size) B.pre
  have hown : s.vm.findClass RX11 = some m.cls := findClass_of_methodNamed B.named
  have hlocks := B.notSynchronized
  have hS : va_S (smA 1 adr) s.heap s.heap [] := va_S.rf
  have hP : smP D cA 1 adr M s.heap := hP
  have hl := lv_entry ([.ref (adr a0), .int x1]) (n := 2) (Nat.le_of_ble_eq_true rfl)
  rw [lg_entry_eq]
  generalize (lg_sl ([.ref (adr a0), .int x1]) ++ List.replicate (2 - (lg_sl ([.ref (adr a0), .int x1])).length) Slot.unset).toArray = ls at hl ⊢
  have hl : lv_has ls 2 [(0, .ref (adr a0)), (1, .int x1)] := hl
  unfold m_X11_size at h
  have hin4 : ∀ w ∈ u_ws RX4 TX4 4, w ∈ wsX11_size := by decide +kernel
  have hin5 : ∀ w ∈ u_ws RX5 TX5 4, w ∈ wsX11_size := by decide +kernel
  have hin8 : ∀ w ∈ u_ws RX8 TX8 4, w ∈ wsX11_size := by decide +kernel
  have hin11 : ∀ w ∈ u_ws RX11 TX11 11, w ∈ wsX11_size := by decide +kernel
  refine lv_iload_n hx hb dX11_size_0 rfl (lv_at hl 1 rfl) ?_
  obtain ⟨v1_1646, hc1_1648, h⟩ := sm_bd h
  refine sm_ci (va_runS (As := [.int x1]) (rest := []) ⟨hx, hb, hml, hown, hts⟩ (k_X11_isSlot l D cA adr hJ x1  M v1_1646 hc1_1648) (va_cwS 1 hts gX11_size_X11_isSlot rfl rfl rfl (by decide +kernel) ⟨Nat.le_of_ble_eq_true rfl, Nat.le_of_ble_eq_true rfl⟩) ⟨smPc_bl, smPc_in [.int x1] hE hP⟩ rfl rfl hl.1 rfl (lv_room (Nat.le_of_ble_eq_true rfl)) dX11_size_1 ⟨Nat.zero_le _, Nat.zero_le _⟩) hS (fun H locs hP hS => ?_)
  refine lv_if_ne (tgt := 9) hx hb dX11_size_4 (by decide) (fun c4_1649 => ?_) (fun c4_1649 => ?_)
  · rw [if_neg c4_1649] at h
    refine lv_aload_n hx hb dX11_size_9 rfl (lv_at hl 0 rfl) ?_
    refine sm_get (ci := 11) (C := RX11) (T := TX11) (N := 11) (v := .ref (adr (a0 + 12))) hx hb hts hin11 hown hE hP ha0 rfl rfl 3 (by decide) (hts (.fieldLink RX11 26 "OrderMover" "slots" "[LOrderMover$Slot;") (by decide +kernel)) (fun _ h9 => h9) rfl dX11_size_10 ?_
    refine lv_iload_n hx hb dX11_size_13 rfl (lv_at hl 1 rfl) ?_
    obtain ⟨c14_1650, h⟩ := sm_ck h
    refine sm_aald24 hx hb hE hP (t11_3 ha0) c14_1650 dX11_size_14 ?_
    refine sm_get (ci := 8) (C := RX8) (T := TX8) (N := 4) (v := .int (M ((a0 + 12) + 1 + 20 * (x1).toNatClampNeg) 0)) hx hb hts hin8 hown hE hP (te24 (t11_3 ha0) c14_1650) rfl rfl 0 (by decide) (hts (.fieldLink RX11 252 "OrderMover$Slot" "holds" "I") (by decide +kernel)) (fun _ h9 => h9) rfl dX11_size_15 ?_
    refine lv_if_ne (tgt := 24) hx hb dX11_size_18 (by decide) (fun c18_1651 => ?_) (fun c18_1651 => ?_)
    · rw [if_neg c18_1651] at h
      refine lv_aload_n hx hb dX11_size_24 rfl (lv_at hl 0 rfl) ?_
      refine sm_get (ci := 11) (C := RX11) (T := TX11) (N := 11) (v := .ref (adr (a0 + 12))) hx hb hts hin11 hown hE hP ha0 rfl rfl 3 (by decide) (hts (.fieldLink RX11 26 "OrderMover" "slots" "[LOrderMover$Slot;") (by decide +kernel)) (fun _ h9 => h9) rfl dX11_size_25 ?_
      refine lv_iload_n hx hb dX11_size_28 rfl (lv_at hl 1 rfl) ?_
      obtain ⟨c29_1652, h⟩ := sm_ck h
      refine sm_aald24 hx hb hE hP (t11_3 ha0) c29_1652 dX11_size_29 ?_
      refine sm_get (ci := 8) (C := RX8) (T := TX8) (N := 4) (v := .int (M ((a0 + 12) + 1 + 20 * (x1).toNatClampNeg) 0)) hx hb hts hin8 hown hE hP (te24 (t11_3 ha0) c29_1652) rfl rfl 0 (by decide) (hts (.fieldLink RX11 252 "OrderMover$Slot" "holds" "I") (by decide +kernel)) (fun _ h9 => h9) rfl dX11_size_30 ?_
      refine lv_iconst (v := (2 : Int32)) hx hb dX11_size_33 (by decide) ?_
      refine lv_icmp_ne (tgt := 52) hx hb dX11_size_34 (by decide) (fun c34_1653 => ?_) (fun c34_1653 => ?_)
      · rw [if_neg c34_1653] at h
        refine lv_aload_n hx hb dX11_size_52 rfl (lv_at hl 0 rfl) ?_
        refine sm_get (ci := 11) (C := RX11) (T := TX11) (N := 11) (v := .ref (adr (a0 + 12))) hx hb hts hin11 hown hE hP ha0 rfl rfl 3 (by decide) (hts (.fieldLink RX11 26 "OrderMover" "slots" "[LOrderMover$Slot;") (by decide +kernel)) (fun _ h9 => h9) rfl dX11_size_53 ?_
        refine lv_iload_n hx hb dX11_size_56 rfl (lv_at hl 1 rfl) ?_
        obtain ⟨c57_1654, h⟩ := sm_ck h
        refine sm_aald24 hx hb hE hP (t11_3 ha0) c57_1654 dX11_size_57 ?_
        refine sm_get (ci := 8) (C := RX8) (T := TX8) (N := 4) (v := .ref (adr (((a0 + 12) + 1 + 20 * (x1).toNatClampNeg) + 1))) hx hb hts hin8 hown hE hP (te24 (t11_3 ha0) c57_1654) rfl rfl 1 (by decide) (hts (.fieldLink RX11 255 "OrderMover$Slot" "polynomial" "LOrderMover$Polynomial;") (by decide +kernel)) (fun _ h9 => h9) rfl dX11_size_58 ?_
        refine sm_get (ci := 5) (C := RX5) (T := TX5) (N := 4) (v := .int (M (((a0 + 12) + 1 + 20 * (x1).toNatClampNeg) + 1) 0)) hx hb hts hin5 hown hE hP (t8_1 (te24 (t11_3 ha0) c57_1654)) rfl rfl 0 (by decide) (hts (.fieldLink RX11 279 "OrderMover$Polynomial" "howMany" "I") (by decide +kernel)) (fun _ h9 => h9) rfl dX11_size_61 ?_
        cases h
        exact sm_iret hx hb hr hlocks hP hS dX11_size_64
      · rw [if_pos c34_1653] at h
        refine lv_aload_n hx hb dX11_size_37 rfl (lv_at hl 0 rfl) ?_
        refine sm_get (ci := 11) (C := RX11) (T := TX11) (N := 11) (v := .ref (adr (a0 + 12))) hx hb hts hin11 hown hE hP ha0 rfl rfl 3 (by decide) (hts (.fieldLink RX11 26 "OrderMover" "slots" "[LOrderMover$Slot;") (by decide +kernel)) (fun _ h9 => h9) rfl dX11_size_38 ?_
        refine lv_iload_n hx hb dX11_size_41 rfl (lv_at hl 1 rfl) ?_
        obtain ⟨c42_1655, h⟩ := sm_ck h
        refine sm_aald24 hx hb hE hP (t11_3 ha0) c42_1655 dX11_size_42 ?_
        refine sm_get (ci := 8) (C := RX8) (T := TX8) (N := 4) (v := .ref (adr (((a0 + 12) + 1 + 20 * (x1).toNatClampNeg) + 6))) hx hb hts hin8 hown hE hP (te24 (t11_3 ha0) c42_1655) rfl rfl 3 (by decide) (hts (.fieldLink RX11 265 "OrderMover$Slot" "members" "LOrderMover$Members;") (by decide +kernel)) (fun _ h9 => h9) rfl dX11_size_43 ?_
        refine sm_get (ci := 4) (C := RX4) (T := TX4) (N := 4) (v := .int (M (((a0 + 12) + 1 + 20 * (x1).toNatClampNeg) + 6) 0)) hx hb hts hin4 hown hE hP (t8_3 (te24 (t11_3 ha0) c42_1655)) rfl rfl 0 (by decide) (hts (.fieldLink RX11 165 "OrderMover$Members" "howMany" "I") (by decide +kernel)) (fun _ h9 => h9) rfl dX11_size_46 ?_
        refine lv_goto (tgt := 64) hx hb dX11_size_49 (by decide) ?_
        cases h
        exact sm_iret hx hb hr hlocks hP hS dX11_size_64
    · rw [if_pos c18_1651] at h
      refine lv_bipush (v := (-11 : Int32)) hx hb dX11_size_21 (by decide) ?_
      cases h
      exact sm_iret hx hb hr hlocks hP hS dX11_size_23
  · rw [if_pos c4_1649] at h
    refine lv_iconst (v := (-1 : Int32)) hx hb dX11_size_7 (by decide) ?_
    cases h
    exact sm_iret hx hb hr hlocks hP hS dX11_size_8
set_option maxHeartbeats 4000000 in
set_option maxRecDepth 100000 in
theorem k_X11_stair (l : Launch) (D : va_G) (cA : Nat → ClassId) (adr : Nat → Nat) (hJ : smJ 1 adr) (a0 : Nat) (x1 : Int32) (x2 : Int32) (x3 : Int32) (ha0 : smT 1 a0 11) (M : smM) (v1 : Int32) (M1 : smM) (h : m_X11_stair a0 x1 x2 x3 M = some (v1, M1)) : Met l yX11_stair wsX11_stair ({ frames := 6, cells := 0, slots := 0, locals := 144 }) (smPc D cA 1 adr M [.ref (adr a0), .int x1, .int x2, .int x3]) (smQi D cA 1 adr M1 v1) 0 0 (smA 1 adr) := by
  refine Met.ofW (cc := cX11_stair) (maxL := 5) (ret := (some .int)) (by decide) rfl ?_
  intro p e s m args below meth c s₁ B hml hv
  obtain ⟨rfl, hE, hP⟩ := hv
  have hx := B.exec
  have hb := B.bytes
  have hr := B.returns
  have hts := atoms_spec (ws := wsX11_stair) B.pre
  have hown : s.vm.findClass RX11 = some m.cls := findClass_of_methodNamed B.named
  have hlocks := B.notSynchronized
  have hS : va_S (smA 1 adr) s.heap s.heap [] := va_S.rf
  have hP : smP D cA 1 adr M s.heap := hP
  have hl := lv_entry ([.ref (adr a0), .int x1, .int x2, .int x3]) (n := 5) (Nat.le_of_ble_eq_true rfl)
  rw [lg_entry_eq]
  generalize (lg_sl ([.ref (adr a0), .int x1, .int x2, .int x3]) ++ List.replicate (5 - (lg_sl ([.ref (adr a0), .int x1, .int x2, .int x3])).length) Slot.unset).toArray = ls at hl ⊢
  have hl : lv_has ls 5 [(0, .ref (adr a0)), (1, .int x1), (2, .int x2), (3, .int x3)] := hl
  unfold m_X11_stair at h
  have hin0 : ∀ w ∈ u_ws RX0 TX0 9, w ∈ wsX11_stair := by decide +kernel
  refine lv_iload_n hx hb dX11_stair_0 rfl (lv_at hl 1 rfl) ?_
  obtain ⟨v1_1656, hc1_1658, h⟩ := sm_bd h
  refine sm_ci (va_runS (As := [.int x1]) (rest := []) ⟨hx, hb, hml, hown, hts⟩ (k_X11_isOrder l D cA adr hJ x1  M v1_1656 hc1_1658) (va_cwS 1 hts gX11_stair_X11_isOrder rfl rfl rfl (by decide +kernel) ⟨Nat.le_of_ble_eq_true rfl, Nat.le_of_ble_eq_true rfl⟩) ⟨smPc_bl, smPc_in [.int x1] hE hP⟩ rfl rfl hl.1 rfl (lv_room (Nat.le_of_ble_eq_true rfl)) dX11_stair_1 ⟨Nat.zero_le _, Nat.zero_le _⟩) hS (fun H locs hP hS => ?_)
  refine lv_if_eq (tgt := 22) hx hb dX11_stair_4 (by decide) (fun c4_1659 => ?_) (fun c4_1659 => ?_)
  · rw [if_pos c4_1659] at h
    refine lv_iconst (v := (-1 : Int32)) hx hb dX11_stair_22 (by decide) ?_
    cases h
    exact sm_iret hx hb hr hlocks hP hS dX11_stair_23
  · rw [if_neg c4_1659] at h
    refine lv_aload_n hx hb dX11_stair_7 rfl (lv_at hl 0 rfl) ?_
    refine lv_iload_n hx hb dX11_stair_8 rfl (lv_at hl 2 rfl) ?_
    obtain ⟨v9_1660, hc9_1662, h⟩ := sm_bd h
    refine sm_ci (va_runV (As := [.int x2]) (rest := []) ⟨hx, hb, hml, hown, hts⟩ (k_X11_isStair l D cA adr hJ a0 x2 ha0 M v9_1660 hc9_1662) (cwV 1 hts gX11_stair_X11_isStair rfl rfl rfl (by decide +kernel) ⟨Nat.le_of_ble_eq_true rfl, Nat.le_of_ble_eq_true rfl⟩) ⟨smPc_bl, smRv hE hP ha0 rfl (ci := 11) (q := (RX11, TX11, 11)) rfl, smPc_in [.ref (adr a0), .int x2] hE hP⟩ rfl rfl hl.1 rfl (lv_room (Nat.le_of_ble_eq_true rfl)) dX11_stair_9 ⟨Nat.zero_le _, Nat.zero_le _⟩) hS (fun H locs hP hS => ?_)
    refine lv_if_eq (tgt := 22) hx hb dX11_stair_12 (by decide) (fun c12_1663 => ?_) (fun c12_1663 => ?_)
    · rw [if_pos c12_1663] at h
      refine lv_iconst (v := (-1 : Int32)) hx hb dX11_stair_22 (by decide) ?_
      cases h
      exact sm_iret hx hb hr hlocks hP hS dX11_stair_23
    · rw [if_neg c12_1663] at h
      refine lv_iload_n hx hb dX11_stair_15 rfl (lv_at hl 3 rfl) ?_
      obtain ⟨v16_1664, hc16_1666, h⟩ := sm_bd h
      refine sm_ci (va_runS (As := [.int x3]) (rest := []) ⟨hx, hb, hml, hown, hts⟩ (k_X11_isUnknown l D cA adr hJ x3  M v16_1664 hc16_1666) (va_cwS 1 hts gX11_stair_X11_isUnknown rfl rfl rfl (by decide +kernel) ⟨Nat.le_of_ble_eq_true rfl, Nat.le_of_ble_eq_true rfl⟩) ⟨smPc_bl, smPc_in [.int x3] hE hP⟩ rfl rfl hl.1 rfl (lv_room (Nat.le_of_ble_eq_true rfl)) dX11_stair_16 ⟨Nat.zero_le _, Nat.zero_le _⟩) hS (fun H locs hP hS => ?_)
      refine lv_if_ne (tgt := 24) hx hb dX11_stair_19 (by decide) (fun c19_1667 => ?_) (fun c19_1667 => ?_)
      · rw [if_neg c19_1667] at h
        refine lv_aload_n hx hb dX11_stair_24 rfl (lv_at hl 0 rfl) ?_
        refine lv_iload_n hx hb dX11_stair_25 rfl (lv_at hl 1 rfl) ?_
        obtain ⟨v26_1668, M26_1669, hc26_1670, h⟩ := sm_bd2 h
        refine sm_cr (va_runV (As := [.int x1]) (rest := []) ⟨hx, hb, hml, hown, hts⟩ (k_X11_baseIn l D cA adr hJ a0 x1 ha0 M v26_1668 M26_1669 hc26_1670) (cwV 1 hts gX11_stair_X11_baseIn rfl rfl rfl (by decide +kernel) ⟨Nat.le_of_ble_eq_true rfl, Nat.le_of_ble_eq_true rfl⟩) ⟨smPc_bl, smRv hE hP ha0 rfl (ci := 11) (q := (RX11, TX11, 11)) rfl, smPc_in [.ref (adr a0), .int x1] hE hP⟩ rfl rfl hl.1 rfl (lv_room (Nat.le_of_ble_eq_true rfl)) dX11_stair_26 ⟨Nat.zero_le _, Nat.zero_le _⟩) hS (fun H locs hk26_1671 hP hS => ?_)
        refine lv_astore (lv' := [(4, .ref (adr v26_1668)), (0, .ref (adr a0)), (1, .int x1), (2, .int x2), (3, .int x3)]) hx hb dX11_stair_29 hl (by decide) rfl (fun ls hl => ?_)
        refine lv_iload_n hx hb dX11_stair_31 rfl (lv_at hl 4 rfl) ?_
        refine lv_if_ne (tgt := 45) hx hb dX11_stair_32 (by decide) (fun c32_1672 => ?_) (fun c32_1672 => ?_)
        · rw [if_neg c32_1672] at h
          refine lv_aload hx hb dX11_stair_45 (lv_at hl 0 rfl) ?_
          refine sm_get (ci := 0) (C := RX0) (T := TX0) (N := 9) (v := .ref (adr (v26_1668 + 39))) hx hb hts hin0 hown hE hP hk26_1671 rfl rfl 4 (by decide) (hts (.fieldLink RX11 198 "OrderMover$Base" "stairYs" "[I") (by decide +kernel)) (fun _ h9 => h9) rfl dX11_stair_47 ?_
          refine lv_iload_n hx hb dX11_stair_50 rfl (lv_at hl 3 rfl) ?_
          obtain ⟨c51_1673, h⟩ := sm_ck h
          refine sm_iald hx hb hE hP (t0_4 hk26_1671) c51_1673 dX11_stair_51 ?_
          cases h
          exact sm_iret hx hb hr hlocks hP hS dX11_stair_52
        · rw [if_pos c32_1672] at h
          refine lv_aload hx hb dX11_stair_35 (lv_at hl 0 rfl) ?_
          refine sm_get (ci := 0) (C := RX0) (T := TX0) (N := 9) (v := .ref (adr (v26_1668 + 38))) hx hb hts hin0 hown hE hP hk26_1671 rfl rfl 3 (by decide) (hts (.fieldLink RX11 195 "OrderMover$Base" "stairXs" "[I") (by decide +kernel)) (fun _ h9 => h9) rfl dX11_stair_37 ?_
          refine lv_iload_n hx hb dX11_stair_40 rfl (lv_at hl 3 rfl) ?_
          obtain ⟨c41_1674, h⟩ := sm_ck h
          refine sm_iald hx hb hE hP (t0_3 hk26_1671) c41_1674 dX11_stair_41 ?_
          refine lv_goto (tgt := 52) hx hb dX11_stair_42 (by decide) ?_
          cases h
          exact sm_iret hx hb hr hlocks hP hS dX11_stair_52
      · rw [if_pos c19_1667] at h
        refine lv_iconst (v := (-1 : Int32)) hx hb dX11_stair_22 (by decide) ?_
        cases h
        exact sm_iret hx hb hr hlocks hP hS dX11_stair_23
set_option maxHeartbeats 4000000 in
set_option maxRecDepth 100000 in
theorem k_X11_stands (l : Launch) (D : va_G) (cA : Nat → ClassId) (adr : Nat → Nat) (hJ : smJ 1 adr) (a0 : Nat) (x1 : Int32) (ha0 : smT 1 a0 11) (M : smM) (v1 : Int32) (M1 : smM) (h : m_X11_stands a0 x1 M = some (v1, M1)) : Met l yX11_stands wsX11_stands ({ frames := 6, cells := 0, slots := 0, locals := 143 }) (smPc D cA 1 adr M [.ref (adr a0), .int x1]) (smQi D cA 1 adr M1 v1) 0 0 (smA 1 adr) := by
  refine Met.ofW (cc := cX11_stands) (maxL := 4) (ret := (some .int)) (by decide) rfl ?_
  intro p e s m args below meth c s₁ B hml hv
  obtain ⟨rfl, hE, hP⟩ := hv
  have hx := B.exec
  have hb := B.bytes
  have hr := B.returns
  have hts := atoms_spec (ws := wsX11_stands) B.pre
  have hown : s.vm.findClass RX11 = some m.cls := findClass_of_methodNamed B.named
  have hlocks := B.notSynchronized
  have hS : va_S (smA 1 adr) s.heap s.heap [] := va_S.rf
  have hP : smP D cA 1 adr M s.heap := hP
  have hl := lv_entry ([.ref (adr a0), .int x1]) (n := 4) (Nat.le_of_ble_eq_true rfl)
  rw [lg_entry_eq]
  generalize (lg_sl ([.ref (adr a0), .int x1]) ++ List.replicate (4 - (lg_sl ([.ref (adr a0), .int x1])).length) Slot.unset).toArray = ls at hl ⊢
  have hl : lv_has ls 4 [(0, .ref (adr a0)), (1, .int x1)] := hl
  unfold m_X11_stands at h
  have hin0 : ∀ w ∈ u_ws RX0 TX0 9, w ∈ wsX11_stands := by decide +kernel
  have hin2 : ∀ w ∈ u_ws RX2 TX2 9, w ∈ wsX11_stands := by decide +kernel
  have hin8 : ∀ w ∈ u_ws RX8 TX8 4, w ∈ wsX11_stands := by decide +kernel
  have hin10 : ∀ w ∈ u_ws RX10 TX10 3, w ∈ wsX11_stands := by decide +kernel
  have hin11 : ∀ w ∈ u_ws RX11 TX11 11, w ∈ wsX11_stands := by decide +kernel
  refine lv_iload_n hx hb dX11_stands_0 rfl (lv_at hl 1 rfl) ?_
  obtain ⟨v1_1675, hc1_1677, h⟩ := sm_bd h
  refine sm_ci (va_runS (As := [.int x1]) (rest := []) ⟨hx, hb, hml, hown, hts⟩ (k_X11_isSlot l D cA adr hJ x1  M v1_1675 hc1_1677) (va_cwS 1 hts gX11_stands_X11_isSlot rfl rfl rfl (by decide +kernel) ⟨Nat.le_of_ble_eq_true rfl, Nat.le_of_ble_eq_true rfl⟩) ⟨smPc_bl, smPc_in [.int x1] hE hP⟩ rfl rfl hl.1 rfl (lv_room (Nat.le_of_ble_eq_true rfl)) dX11_stands_1 ⟨Nat.zero_le _, Nat.zero_le _⟩) hS (fun H locs hP hS => ?_)
  refine lv_if_ne (tgt := 9) hx hb dX11_stands_4 (by decide) (fun c4_1678 => ?_) (fun c4_1678 => ?_)
  · rw [if_neg c4_1678] at h
    refine lv_aload_n hx hb dX11_stands_9 rfl (lv_at hl 0 rfl) ?_
    refine sm_get (ci := 11) (C := RX11) (T := TX11) (N := 11) (v := .ref (adr (a0 + 12))) hx hb hts hin11 hown hE hP ha0 rfl rfl 3 (by decide) (hts (.fieldLink RX11 26 "OrderMover" "slots" "[LOrderMover$Slot;") (by decide +kernel)) (fun _ h9 => h9) rfl dX11_stands_10 ?_
    refine lv_iload_n hx hb dX11_stands_13 rfl (lv_at hl 1 rfl) ?_
    obtain ⟨c14_1679, h⟩ := sm_ck h
    refine sm_aald24 hx hb hE hP (t11_3 ha0) c14_1679 dX11_stands_14 ?_
    refine lv_iconst (v := (2 : Int32)) hx hb dX11_stands_15 (by decide) ?_
    obtain ⟨v16_1680, hc16_1682, h⟩ := sm_bd h
    refine sm_ci (va_runV (As := [.int (2 : Int32)]) (rest := []) ⟨hx, hb, hml, hown, hts⟩ (k_X8_findWanting l D cA adr hJ ((a0 + 12) + 1 + 20 * (x1).toNatClampNeg) (2 : Int32) (te24 (t11_3 ha0) c14_1679) M v16_1680 hc16_1682) (cwV 1 hts gX11_stands_X8_findWanting rfl rfl rfl (by decide +kernel) ⟨Nat.le_of_ble_eq_true rfl, Nat.le_of_ble_eq_true rfl⟩) ⟨smPc_bl, smRv hE hP (te24 (t11_3 ha0) c14_1679) rfl (ci := 8) (q := (RX8, TX8, 4)) rfl, smPc_in [.ref (adr ((a0 + 12) + 1 + 20 * (x1).toNatClampNeg)), .int (2 : Int32)] hE hP⟩ rfl rfl hl.1 rfl (lv_room (Nat.le_of_ble_eq_true rfl)) dX11_stands_16 ⟨Nat.zero_le _, Nat.zero_le _⟩) hS (fun H locs hP hS => ?_)
    refine lv_istore_n (lv' := [(2, .int v16_1680), (0, .ref (adr a0)), (1, .int x1)]) hx hb dX11_stands_19 rfl hl (by decide) rfl (fun ls hl => ?_)
    refine lv_iload_n hx hb dX11_stands_20 rfl (lv_at hl 0 rfl) ?_
    refine lv_if_eq (tgt := 26) hx hb dX11_stands_21 (by decide) (fun c21_1683 => ?_) (fun c21_1683 => ?_)
    · rw [if_pos c21_1683] at h
      refine lv_aload_n hx hb dX11_stands_26 rfl (lv_at hl 1 rfl) ?_
      refine sm_get (ci := 11) (C := RX11) (T := TX11) (N := 11) (v := .ref (adr (a0 + 12))) hx hb hts hin11 hown hE hP ha0 rfl rfl 3 (by decide) (hts (.fieldLink RX11 26 "OrderMover" "slots" "[LOrderMover$Slot;") (by decide +kernel)) (fun _ h9 => h9) rfl dX11_stands_27 ?_
      refine lv_iload_n hx hb dX11_stands_30 rfl (lv_at hl 2 rfl) ?_
      obtain ⟨c31_1684, h⟩ := sm_ck h
      refine sm_aald24 hx hb hE hP (t11_3 ha0) c31_1684 dX11_stands_31 ?_
      refine sm_get (ci := 8) (C := RX8) (T := TX8) (N := 4) (v := .ref (adr (((a0 + 12) + 1 + 20 * (x1).toNatClampNeg) + 5))) hx hb hts hin8 hown hE hP (te24 (t11_3 ha0) c31_1684) rfl rfl 2 (by decide) (hts (.fieldLink RX11 319 "OrderMover$Slot" "order" "LOrderMover$TermOrder;") (by decide +kernel)) (fun _ h9 => h9) rfl dX11_stands_32 ?_
      refine lv_astore_n (lv' := [(3, .ref (adr (((a0 + 12) + 1 + 20 * (x1).toNatClampNeg) + 5))), (2, .int v16_1680), (0, .ref (adr a0)), (1, .int x1)]) hx hb dX11_stands_35 rfl hl (by decide) rfl (fun ls hl => ?_)
      refine lv_aload_n hx hb dX11_stands_36 rfl (lv_at hl 2 rfl) ?_
      refine sm_get (ci := 11) (C := RX11) (T := TX11) (N := 11) (v := .ref (adr (a0 + 441))) hx hb hts hin11 hown hE hP ha0 rfl rfl 5 (by decide) (hts (.fieldLink RX11 40 "OrderMover" "spare" "LOrderMover$Base;") (by decide +kernel)) (fun _ h9 => h9) rfl dX11_stands_37 ?_
      refine lv_aload_n hx hb dX11_stands_40 rfl (lv_at hl 2 rfl) ?_
      obtain ⟨v41_1685, M41_1686, hc41_1687, h⟩ := sm_bd2 h
      refine sm_cr (va_runV (As := []) (rest := [.ref (adr (a0 + 441))]) ⟨hx, hb, hml, hown, hts⟩ (k_X11_currentIdeal l D cA adr hJ a0 ha0 M v41_1685 M41_1686 hc41_1687) (cwV 0 hts gX11_stands_X11_currentIdeal rfl rfl rfl (by decide +kernel) ⟨Nat.le_of_ble_eq_true rfl, Nat.le_of_ble_eq_true rfl⟩) ⟨smPc_bl, smRv hE hP ha0 rfl (ci := 11) (q := (RX11, TX11, 11)) rfl, smPc_in [.ref (adr a0)] hE hP⟩ rfl rfl hl.1 rfl (lv_room (Nat.le_of_ble_eq_true rfl)) dX11_stands_41 ⟨Nat.zero_le _, Nat.zero_le _⟩) hS (fun H locs hk41_1688 hP hS => ?_)
      refine sm_get (ci := 2) (C := RX2) (T := TX2) (N := 9) (v := .ref (adr (v41_1685 + 1))) hx hb hts hin2 hown hE hP hk41_1688 rfl rfl 0 (by decide) (hts (.fieldLink RX11 215 "OrderMover$Ideal" "quotient" "LOrderMover$Quotient;") (by decide +kernel)) (fun _ h9 => h9) rfl dX11_stands_44 ?_
      refine lv_aload_n hx hb dX11_stands_47 rfl (lv_at hl 0 rfl) ?_
      refine sm_get (ci := 10) (C := RX10) (T := TX10) (N := 3) (v := .int (M41_1686 (((a0 + 12) + 1 + 20 * (x1).toNatClampNeg) + 5) 0)) hx hb hts hin10 hown hE hP (t8_2 (te24 (t11_3 ha0) c31_1684)) rfl rfl 0 (by decide) (hts (.fieldLink RX11 322 "OrderMover$TermOrder" "kind" "I") (by decide +kernel)) (fun _ h9 => h9) rfl dX11_stands_48 ?_
      refine lv_aload_n hx hb dX11_stands_51 rfl (lv_at hl 0 rfl) ?_
      refine sm_get (ci := 10) (C := RX10) (T := TX10) (N := 3) (v := .int (M41_1686 (((a0 + 12) + 1 + 20 * (x1).toNatClampNeg) + 5) 1)) hx hb hts hin10 hown hE hP (t8_2 (te24 (t11_3 ha0) c31_1684)) rfl rfl 1 (by decide) (hts (.fieldLink RX11 325 "OrderMover$TermOrder" "u" "I") (by decide +kernel)) (fun _ h9 => h9) rfl dX11_stands_52 ?_
      refine lv_aload_n hx hb dX11_stands_55 rfl (lv_at hl 0 rfl) ?_
      refine sm_get (ci := 10) (C := RX10) (T := TX10) (N := 3) (v := .int (M41_1686 (((a0 + 12) + 1 + 20 * (x1).toNatClampNeg) + 5) 2)) hx hb hts hin10 hown hE hP (t8_2 (te24 (t11_3 ha0) c31_1684)) rfl rfl 2 (by decide) (hts (.fieldLink RX11 326 "OrderMover$TermOrder" "v" "I") (by decide +kernel)) (fun _ h9 => h9) rfl dX11_stands_56 ?_
      obtain ⟨M59_1690, hc59_1691, h⟩ := sm_bd h
      refine sm_cv (va_runV (As := [.ref (adr (v41_1685 + 1)), .int (M41_1686 (((a0 + 12) + 1 + 20 * (x1).toNatClampNeg) + 5) 0), .int (M41_1686 (((a0 + 12) + 1 + 20 * (x1).toNatClampNeg) + 5) 1), .int (M41_1686 (((a0 + 12) + 1 + 20 * (x1).toNatClampNeg) + 5) 2)]) (rest := []) ⟨hx, hb, hml, hown, hts⟩ (k_X0_walk l D cA adr hJ (a0 + 441) (v41_1685 + 1) (M41_1686 (((a0 + 12) + 1 + 20 * (x1).toNatClampNeg) + 5) 0) (M41_1686 (((a0 + 12) + 1 + 20 * (x1).toNatClampNeg) + 5) 1) (M41_1686 (((a0 + 12) + 1 + 20 * (x1).toNatClampNeg) + 5) 2) (t11_5 ha0) (t2_0 hk41_1688) M41_1686 M59_1690 hc59_1691) (cwV 4 hts gX11_stands_X0_walk rfl rfl rfl (by decide +kernel) ⟨Nat.le_of_ble_eq_true rfl, Nat.le_of_ble_eq_true rfl⟩) ⟨smPc_bl, smRv hE hP (t11_5 ha0) rfl (ci := 0) (q := (RX0, TX0, 9)) rfl, smPc_in [.ref (adr (a0 + 441)), .ref (adr (v41_1685 + 1)), .int (M41_1686 (((a0 + 12) + 1 + 20 * (x1).toNatClampNeg) + 5) 0), .int (M41_1686 (((a0 + 12) + 1 + 20 * (x1).toNatClampNeg) + 5) 1), .int (M41_1686 (((a0 + 12) + 1 + 20 * (x1).toNatClampNeg) + 5) 2)] hE hP⟩ rfl rfl hl.1 rfl (lv_room (Nat.le_of_ble_eq_true rfl)) dX11_stands_59 ⟨Nat.zero_le _, Nat.zero_le _⟩) hS (fun H locs hP hS => ?_)
      refine lv_aload_n hx hb dX11_stands_62 rfl (lv_at hl 2 rfl) ?_
      refine sm_get (ci := 11) (C := RX11) (T := TX11) (N := 11) (v := .ref (adr (a0 + 441))) hx hb hts hin11 hown hE hP ha0 rfl rfl 5 (by decide) (hts (.fieldLink RX11 40 "OrderMover" "spare" "LOrderMover$Base;") (by decide +kernel)) (fun _ h9 => h9) rfl dX11_stands_63 ?_
      refine sm_get (ci := 0) (C := RX0) (T := TX0) (N := 9) (v := .ref (adr ((a0 + 441) + 2))) hx hb hts hin0 hown hE hP (t11_5 ha0) rfl rfl 1 (by decide) (hts (.fieldLink RX11 161 "OrderMover$Base" "members" "LOrderMover$Members;") (by decide +kernel)) (fun _ h9 => h9) rfl dX11_stands_66 ?_
      refine lv_aload_n hx hb dX11_stands_69 rfl (lv_at hl 2 rfl) ?_
      refine sm_get (ci := 11) (C := RX11) (T := TX11) (N := 11) (v := .ref (adr (a0 + 12))) hx hb hts hin11 hown hE hP ha0 rfl rfl 3 (by decide) (hts (.fieldLink RX11 26 "OrderMover" "slots" "[LOrderMover$Slot;") (by decide +kernel)) (fun _ h9 => h9) rfl dX11_stands_70 ?_
      refine lv_iload_n hx hb dX11_stands_73 rfl (lv_at hl 3 rfl) ?_
      obtain ⟨c74_1692, h⟩ := sm_ck h
      refine sm_aald24 hx hb hE hP (t11_3 ha0) c74_1692 dX11_stands_74 ?_
      refine sm_get (ci := 8) (C := RX8) (T := TX8) (N := 4) (v := .ref (adr (((a0 + 12) + 1 + 20 * (x1).toNatClampNeg) + 6))) hx hb hts hin8 hown hE hP (te24 (t11_3 ha0) c74_1692) rfl rfl 3 (by decide) (hts (.fieldLink RX11 265 "OrderMover$Slot" "members" "LOrderMover$Members;") (by decide +kernel)) (fun _ h9 => h9) rfl dX11_stands_75 ?_
      obtain ⟨v78_1693, hc78_1695, h⟩ := sm_bd h
      refine sm_ci (va_runV (As := [.ref (adr (((a0 + 12) + 1 + 20 * (x1).toNatClampNeg) + 6))]) (rest := []) ⟨hx, hb, hml, hown, hts⟩ (k_X4_isAs l D cA adr hJ ((a0 + 441) + 2) (((a0 + 12) + 1 + 20 * (x1).toNatClampNeg) + 6) (t0_1 (t11_5 ha0)) (t8_3 (te24 (t11_3 ha0) c74_1692)) M59_1690 v78_1693 hc78_1695) (cwV 1 hts gX11_stands_X4_isAs rfl rfl rfl (by decide +kernel) ⟨Nat.le_of_ble_eq_true rfl, Nat.le_of_ble_eq_true rfl⟩) ⟨smPc_bl, smRv hE hP (t0_1 (t11_5 ha0)) rfl (ci := 4) (q := (RX4, TX4, 4)) rfl, smPc_in [.ref (adr ((a0 + 441) + 2)), .ref (adr (((a0 + 12) + 1 + 20 * (x1).toNatClampNeg) + 6))] hE hP⟩ rfl rfl hl.1 rfl (lv_room (Nat.le_of_ble_eq_true rfl)) dX11_stands_78 ⟨Nat.zero_le _, Nat.zero_le _⟩) hS (fun H locs hP hS => ?_)
      obtain ⟨v81_1696, hc81_1698, h⟩ := sm_bd h
      refine sm_ci (va_runS (As := [.int v78_1693]) (rest := []) ⟨hx, hb, hml, hown, hts⟩ (k_X11_asAnswer l D cA adr hJ v78_1693  M59_1690 v81_1696 hc81_1698) (va_cwS 1 hts gX11_stands_X11_asAnswer rfl rfl rfl (by decide +kernel) ⟨Nat.le_of_ble_eq_true rfl, Nat.le_of_ble_eq_true rfl⟩) ⟨smPc_bl, smPc_in [.int v78_1693] hE hP⟩ rfl rfl hl.1 rfl (lv_room (Nat.le_of_ble_eq_true rfl)) dX11_stands_81 ⟨Nat.zero_le _, Nat.zero_le _⟩) hS (fun H locs hP hS => ?_)
      cases h
      exact sm_iret hx hb hr hlocks hP hS dX11_stands_84
    · rw [if_neg c21_1683] at h
      refine lv_iload_n hx hb dX11_stands_24 rfl (lv_at hl 0 rfl) ?_
      cases h
      exact sm_iret hx hb hr hlocks hP hS dX11_stands_25
  · rw [if_pos c4_1678] at h
    refine lv_iconst (v := (-1 : Int32)) hx hb dX11_stands_7 (by decide) ?_
    cases h
    exact sm_iret hx hb hr hlocks hP hS dX11_stands_8
set_option maxHeartbeats 4000000 in
set_option maxRecDepth 100000 in
theorem k_X11_system (l : Launch) (D : va_G) (cA : Nat → ClassId) (adr : Nat → Nat) (hJ : smJ 1 adr) (a0 : Nat) (x1 : Int32) (x2 : Int32) (ha0 : smT 1 a0 11) (M : smM) (v1 : Int32) (M1 : smM) (h : m_X11_system a0 x1 x2 M = some (v1, M1)) : Met l yX11_system wsX11_system ({ frames := 2, cells := 0, slots := 0, locals := 43 }) (smPc D cA 1 adr M [.ref (adr a0), .int x1, .int x2]) (smQi D cA 1 adr M1 v1) 0 0 (smA 1 adr) := by
  refine Met.ofW (cc := cX11_system) (maxL := 3) (ret := (some .int)) (by decide) rfl ?_
  intro p e s m args below meth c s₁ B hml hv
  obtain ⟨rfl, hE, hP⟩ := hv
  have hx := B.exec
  have hb := B.bytes
  have hr := B.returns
  have hts := atoms_spec (ws := wsX11_system) B.pre
  have hown : s.vm.findClass RX11 = some m.cls := findClass_of_methodNamed B.named
  have hlocks := B.notSynchronized
  have hS : va_S (smA 1 adr) s.heap s.heap [] := va_S.rf
  have hP : smP D cA 1 adr M s.heap := hP
  have hl := lv_entry ([.ref (adr a0), .int x1, .int x2]) (n := 3) (Nat.le_of_ble_eq_true rfl)
  rw [lg_entry_eq]
  generalize (lg_sl ([.ref (adr a0), .int x1, .int x2]) ++ List.replicate (3 - (lg_sl ([.ref (adr a0), .int x1, .int x2])).length) Slot.unset).toArray = ls at hl ⊢
  have hl : lv_has ls 3 [(0, .ref (adr a0)), (1, .int x1), (2, .int x2)] := hl
  unfold m_X11_system at h
  have hin11 : ∀ w ∈ u_ws RX11 TX11 11, w ∈ wsX11_system := by decide +kernel
  refine lv_iload_n hx hb dX11_system_0 rfl (lv_at hl 1 rfl) ?_
  refine lv_iconst (v := (1 : Int32)) hx hb dX11_system_1 (by decide) ?_
  refine lv_iconst (v := (3 : Int32)) hx hb dX11_system_2 (by decide) ?_
  obtain ⟨v3_1699, hc3_1701, h⟩ := sm_bd h
  refine sm_ci (va_runS (As := [.int x1, .int (1 : Int32), .int (3 : Int32)]) (rest := []) ⟨hx, hb, hml, hown, hts⟩ (k_X11_isWithin l D cA adr hJ x1 (1 : Int32) (3 : Int32)  M v3_1699 hc3_1701) (va_cwS 3 hts gX11_system_X11_isWithin rfl rfl rfl (by decide +kernel) ⟨Nat.le_of_ble_eq_true rfl, Nat.le_of_ble_eq_true rfl⟩) ⟨smPc_bl, smPc_in [.int x1, .int (1 : Int32), .int (3 : Int32)] hE hP⟩ rfl rfl hl.1 rfl (lv_room (Nat.le_of_ble_eq_true rfl)) dX11_system_3 ⟨Nat.zero_le _, Nat.zero_le _⟩) hS (fun H locs hP hS => ?_)
  refine lv_if_eq (tgt := 18) hx hb dX11_system_6 (by decide) (fun c6_1702 => ?_) (fun c6_1702 => ?_)
  · rw [if_pos c6_1702] at h
    refine lv_iconst (v := (-1 : Int32)) hx hb dX11_system_18 (by decide) ?_
    cases h
    exact sm_iret hx hb hr hlocks hP hS dX11_system_19
  · rw [if_neg c6_1702] at h
    refine lv_iload_n hx hb dX11_system_9 rfl (lv_at hl 2 rfl) ?_
    refine lv_iconst (v := (1 : Int32)) hx hb dX11_system_10 (by decide) ?_
    refine lv_iconst (v := (3 : Int32)) hx hb dX11_system_11 (by decide) ?_
    obtain ⟨v12_1703, hc12_1705, h⟩ := sm_bd h
    refine sm_ci (va_runS (As := [.int x2, .int (1 : Int32), .int (3 : Int32)]) (rest := []) ⟨hx, hb, hml, hown, hts⟩ (k_X11_isWithin l D cA adr hJ x2 (1 : Int32) (3 : Int32)  M v12_1703 hc12_1705) (va_cwS 3 hts gX11_system_X11_isWithin rfl rfl rfl (by decide +kernel) ⟨Nat.le_of_ble_eq_true rfl, Nat.le_of_ble_eq_true rfl⟩) ⟨smPc_bl, smPc_in [.int x2, .int (1 : Int32), .int (3 : Int32)] hE hP⟩ rfl rfl hl.1 rfl (lv_room (Nat.le_of_ble_eq_true rfl)) dX11_system_12 ⟨Nat.zero_le _, Nat.zero_le _⟩) hS (fun H locs hP hS => ?_)
    refine lv_if_ne (tgt := 20) hx hb dX11_system_15 (by decide) (fun c15_1706 => ?_) (fun c15_1706 => ?_)
    · rw [if_neg c15_1706] at h
      refine lv_aload_n hx hb dX11_system_20 rfl (lv_at hl 0 rfl) ?_
      refine sm_get (ci := 11) (C := RX11) (T := TX11) (N := 11) (v := .ref (adr (a0 + 1))) hx hb hts hin11 hown hE hP ha0 rfl rfl 0 (by decide) (hts (.fieldLink RX11 12 "OrderMover" "setting" "LOrderMover$Setting;") (by decide +kernel)) (fun _ h9 => h9) rfl dX11_system_21 ?_
      refine lv_iload_n hx hb dX11_system_24 rfl (lv_at hl 1 rfl) ?_
      refine lv_iload_n hx hb dX11_system_25 rfl (lv_at hl 2 rfl) ?_
      obtain ⟨M26_1708, hc26_1709, h⟩ := sm_bd h
      refine sm_cv (va_runV (As := [.int x1, .int x2]) (rest := []) ⟨hx, hb, hml, hown, hts⟩ (k_X7_begin l D cA adr hJ (a0 + 1) x1 x2 (t11_0 ha0) M M26_1708 hc26_1709) (cwV 2 hts gX11_system_X7_begin rfl rfl rfl (by decide +kernel) ⟨Nat.le_of_ble_eq_true rfl, Nat.le_of_ble_eq_true rfl⟩) ⟨smPc_bl, smRv hE hP (t11_0 ha0) rfl (ci := 7) (q := (RX7, TX7, 7)) rfl, smPc_in [.ref (adr (a0 + 1)), .int x1, .int x2] hE hP⟩ rfl rfl hl.1 rfl (lv_room (Nat.le_of_ble_eq_true rfl)) dX11_system_26 ⟨Nat.zero_le _, Nat.zero_le _⟩) hS (fun H locs hP hS => ?_)
      refine lv_aload_n hx hb dX11_system_29 rfl (lv_at hl 0 rfl) ?_
      refine sm_get (ci := 11) (C := RX11) (T := TX11) (N := 11) (v := .ref (adr (a0 + 93))) hx hb hts hin11 hown hE hP ha0 rfl rfl 4 (by decide) (hts (.fieldLink RX11 33 "OrderMover" "ideal" "LOrderMover$Ideal;") (by decide +kernel)) (fun _ h9 => h9) rfl dX11_system_30 ?_
      obtain ⟨M33_1711, hc33_1712, h⟩ := sm_bd h
      refine sm_cv (va_runV (As := []) (rest := []) ⟨hx, hb, hml, hown, hts⟩ (k_X2_forget l D cA adr hJ (a0 + 93) (t11_4 ha0) M26_1708 M33_1711 hc33_1712) (cwV 0 hts gX11_system_X2_forget rfl rfl rfl (by decide +kernel) ⟨Nat.le_of_ble_eq_true rfl, Nat.le_of_ble_eq_true rfl⟩) ⟨smPc_bl, smRv hE hP (t11_4 ha0) rfl (ci := 2) (q := (RX2, TX2, 9)) rfl, smPc_in [.ref (adr (a0 + 93))] hE hP⟩ rfl rfl hl.1 rfl (lv_room (Nat.le_of_ble_eq_true rfl)) dX11_system_33 ⟨Nat.zero_le _, Nat.zero_le _⟩) hS (fun H locs hP hS => ?_)
      refine lv_aload_n hx hb dX11_system_36 rfl (lv_at hl 0 rfl) ?_
      refine sm_get (ci := 11) (C := RX11) (T := TX11) (N := 11) (v := .ref (adr (a0 + 1))) hx hb hts hin11 hown hE hP ha0 rfl rfl 0 (by decide) (hts (.fieldLink RX11 12 "OrderMover" "setting" "LOrderMover$Setting;") (by decide +kernel)) (fun _ h9 => h9) rfl dX11_system_37 ?_
      obtain ⟨v40_1713, hc40_1715, h⟩ := sm_bd h
      refine sm_ci (va_runV (As := []) (rest := []) ⟨hx, hb, hml, hown, hts⟩ (k_X7_dimension l D cA adr hJ (a0 + 1) (t11_0 ha0) M33_1711 v40_1713 hc40_1715) (cwV 0 hts gX11_system_X7_dimension rfl rfl rfl (by decide +kernel) ⟨Nat.le_of_ble_eq_true rfl, Nat.le_of_ble_eq_true rfl⟩) ⟨smPc_bl, smRv hE hP (t11_0 ha0) rfl (ci := 7) (q := (RX7, TX7, 7)) rfl, smPc_in [.ref (adr (a0 + 1))] hE hP⟩ rfl rfl hl.1 rfl (lv_room (Nat.le_of_ble_eq_true rfl)) dX11_system_40 ⟨Nat.zero_le _, Nat.zero_le _⟩) hS (fun H locs hP hS => ?_)
      cases h
      exact sm_iret hx hb hr hlocks hP hS dX11_system_43
    · rw [if_pos c15_1706] at h
      refine lv_iconst (v := (-1 : Int32)) hx hb dX11_system_18 (by decide) ?_
      cases h
      exact sm_iret hx hb hr hlocks hP hS dX11_system_19
set_option maxHeartbeats 4000000 in
set_option maxRecDepth 100000 in
theorem k_X11_table (l : Launch) (D : va_G) (cA : Nat → ClassId) (adr : Nat → Nat) (hJ : smJ 1 adr) (a0 : Nat) (x1 : Int32) (x2 : Int32) (x3 : Int32) (x4 : Int32) (ha0 : smT 1 a0 11) (M : smM) (v1 : Int32) (M1 : smM) (h : m_X11_table a0 x1 x2 x3 x4 M = some (v1, M1)) : Met l yX11_table wsX11_table ({ frames := 6, cells := 0, slots := 0, locals := 144 }) (smPc D cA 1 adr M [.ref (adr a0), .int x1, .int x2, .int x3, .int x4]) (smQi D cA 1 adr M1 v1) 0 0 (smA 1 adr) := by
  refine Met.ofW (cc := cX11_table) (maxL := 6) (ret := (some .int)) (by decide) rfl ?_
  intro p e s m args below meth c s₁ B hml hv
  obtain ⟨rfl, hE, hP⟩ := hv
  have hx := B.exec
  have hb := B.bytes
  have hr := B.returns
  have hts := atoms_spec (ws := wsX11_table) B.pre
  have hown : s.vm.findClass RX11 = some m.cls := findClass_of_methodNamed B.named
  have hlocks := B.notSynchronized
  have hS : va_S (smA 1 adr) s.heap s.heap [] := va_S.rf
  have hP : smP D cA 1 adr M s.heap := hP
  have hl := lv_entry ([.ref (adr a0), .int x1, .int x2, .int x3, .int x4]) (n := 6) (Nat.le_of_ble_eq_true rfl)
  rw [lg_entry_eq]
  generalize (lg_sl ([.ref (adr a0), .int x1, .int x2, .int x3, .int x4]) ++ List.replicate (6 - (lg_sl ([.ref (adr a0), .int x1, .int x2, .int x3, .int x4])).length) Slot.unset).toArray = ls at hl ⊢
  have hl : lv_has ls 6 [(0, .ref (adr a0)), (1, .int x1), (2, .int x2), (3, .int x3), (4, .int x4)] := hl
  unfold m_X11_table at h
  have hin0 : ∀ w ∈ u_ws RX0 TX0 9, w ∈ wsX11_table := by decide +kernel
  have hin2 : ∀ w ∈ u_ws RX2 TX2 9, w ∈ wsX11_table := by decide +kernel
  have hin11 : ∀ w ∈ u_ws RX11 TX11 11, w ∈ wsX11_table := by decide +kernel
  refine lv_iload_n hx hb dX11_table_0 rfl (lv_at hl 1 rfl) ?_
  obtain ⟨v1_1716, hc1_1718, h⟩ := sm_bd h
  refine sm_ci (va_runS (As := [.int x1]) (rest := []) ⟨hx, hb, hml, hown, hts⟩ (k_X11_isOrder l D cA adr hJ x1  M v1_1716 hc1_1718) (va_cwS 1 hts gX11_table_X11_isOrder rfl rfl rfl (by decide +kernel) ⟨Nat.le_of_ble_eq_true rfl, Nat.le_of_ble_eq_true rfl⟩) ⟨smPc_bl, smPc_in [.int x1] hE hP⟩ rfl rfl hl.1 rfl (lv_room (Nat.le_of_ble_eq_true rfl)) dX11_table_1 ⟨Nat.zero_le _, Nat.zero_le _⟩) hS (fun H locs hP hS => ?_)
  refine lv_if_eq (tgt := 31) hx hb dX11_table_4 (by decide) (fun c4_1719 => ?_) (fun c4_1719 => ?_)
  · rw [if_pos c4_1719] at h
    refine lv_iconst (v := (-1 : Int32)) hx hb dX11_table_31 (by decide) ?_
    cases h
    exact sm_iret hx hb hr hlocks hP hS dX11_table_32
  · rw [if_neg c4_1719] at h
    refine lv_iload_n hx hb dX11_table_7 rfl (lv_at hl 2 rfl) ?_
    obtain ⟨v8_1720, hc8_1722, h⟩ := sm_bd h
    refine sm_ci (va_runS (As := [.int x2]) (rest := []) ⟨hx, hb, hml, hown, hts⟩ (k_X11_isUnknown l D cA adr hJ x2  M v8_1720 hc8_1722) (va_cwS 1 hts gX11_table_X11_isUnknown rfl rfl rfl (by decide +kernel) ⟨Nat.le_of_ble_eq_true rfl, Nat.le_of_ble_eq_true rfl⟩) ⟨smPc_bl, smPc_in [.int x2] hE hP⟩ rfl rfl hl.1 rfl (lv_room (Nat.le_of_ble_eq_true rfl)) dX11_table_8 ⟨Nat.zero_le _, Nat.zero_le _⟩) hS (fun H locs hP hS => ?_)
    refine lv_if_eq (tgt := 31) hx hb dX11_table_11 (by decide) (fun c11_1723 => ?_) (fun c11_1723 => ?_)
    · rw [if_pos c11_1723] at h
      refine lv_iconst (v := (-1 : Int32)) hx hb dX11_table_31 (by decide) ?_
      cases h
      exact sm_iret hx hb hr hlocks hP hS dX11_table_32
    · rw [if_neg c11_1723] at h
      refine lv_aload_n hx hb dX11_table_14 rfl (lv_at hl 0 rfl) ?_
      refine lv_iload_n hx hb dX11_table_15 rfl (lv_at hl 3 rfl) ?_
      obtain ⟨v16_1724, hc16_1726, h⟩ := sm_bd h
      refine sm_ci (va_runV (As := [.int x3]) (rest := []) ⟨hx, hb, hml, hown, hts⟩ (k_X11_isStair l D cA adr hJ a0 x3 ha0 M v16_1724 hc16_1726) (cwV 1 hts gX11_table_X11_isStair rfl rfl rfl (by decide +kernel) ⟨Nat.le_of_ble_eq_true rfl, Nat.le_of_ble_eq_true rfl⟩) ⟨smPc_bl, smRv hE hP ha0 rfl (ci := 11) (q := (RX11, TX11, 11)) rfl, smPc_in [.ref (adr a0), .int x3] hE hP⟩ rfl rfl hl.1 rfl (lv_room (Nat.le_of_ble_eq_true rfl)) dX11_table_16 ⟨Nat.zero_le _, Nat.zero_le _⟩) hS (fun H locs hP hS => ?_)
      refine lv_if_eq (tgt := 31) hx hb dX11_table_19 (by decide) (fun c19_1727 => ?_) (fun c19_1727 => ?_)
      · rw [if_pos c19_1727] at h
        refine lv_iconst (v := (-1 : Int32)) hx hb dX11_table_31 (by decide) ?_
        cases h
        exact sm_iret hx hb hr hlocks hP hS dX11_table_32
      · rw [if_neg c19_1727] at h
        refine lv_aload_n hx hb dX11_table_22 rfl (lv_at hl 0 rfl) ?_
        refine lv_iload hx hb dX11_table_23 (lv_at hl 4 rfl) ?_
        obtain ⟨v25_1728, hc25_1730, h⟩ := sm_bd h
        refine sm_ci (va_runV (As := [.int x4]) (rest := []) ⟨hx, hb, hml, hown, hts⟩ (k_X11_isStair l D cA adr hJ a0 x4 ha0 M v25_1728 hc25_1730) (cwV 1 hts gX11_table_X11_isStair rfl rfl rfl (by decide +kernel) ⟨Nat.le_of_ble_eq_true rfl, Nat.le_of_ble_eq_true rfl⟩) ⟨smPc_bl, smRv hE hP ha0 rfl (ci := 11) (q := (RX11, TX11, 11)) rfl, smPc_in [.ref (adr a0), .int x4] hE hP⟩ rfl rfl hl.1 rfl (lv_room (Nat.le_of_ble_eq_true rfl)) dX11_table_25 ⟨Nat.zero_le _, Nat.zero_le _⟩) hS (fun H locs hP hS => ?_)
        refine lv_if_ne (tgt := 33) hx hb dX11_table_28 (by decide) (fun c28_1731 => ?_) (fun c28_1731 => ?_)
        · rw [if_neg c28_1731] at h
          refine lv_aload_n hx hb dX11_table_33 rfl (lv_at hl 0 rfl) ?_
          refine lv_iload_n hx hb dX11_table_34 rfl (lv_at hl 1 rfl) ?_
          obtain ⟨v35_1732, M35_1733, hc35_1734, h⟩ := sm_bd2 h
          refine sm_cr (va_runV (As := [.int x1]) (rest := []) ⟨hx, hb, hml, hown, hts⟩ (k_X11_baseIn l D cA adr hJ a0 x1 ha0 M v35_1732 M35_1733 hc35_1734) (cwV 1 hts gX11_table_X11_baseIn rfl rfl rfl (by decide +kernel) ⟨Nat.le_of_ble_eq_true rfl, Nat.le_of_ble_eq_true rfl⟩) ⟨smPc_bl, smRv hE hP ha0 rfl (ci := 11) (q := (RX11, TX11, 11)) rfl, smPc_in [.ref (adr a0), .int x1] hE hP⟩ rfl rfl hl.1 rfl (lv_room (Nat.le_of_ble_eq_true rfl)) dX11_table_35 ⟨Nat.zero_le _, Nat.zero_le _⟩) hS (fun H locs hk35_1735 hP hS => ?_)
          refine lv_astore (lv' := [(5, .ref (adr v35_1732)), (0, .ref (adr a0)), (1, .int x1), (2, .int x2), (3, .int x3), (4, .int x4)]) hx hb dX11_table_38 hl (by decide) rfl (fun ls hl => ?_)
          refine lv_aload_n hx hb dX11_table_40 rfl (lv_at hl 1 rfl) ?_
          refine sm_get (ci := 11) (C := RX11) (T := TX11) (N := 11) (v := .ref (adr (a0 + 93))) hx hb hts hin11 hown hE hP ha0 rfl rfl 4 (by decide) (hts (.fieldLink RX11 33 "OrderMover" "ideal" "LOrderMover$Ideal;") (by decide +kernel)) (fun _ h9 => h9) rfl dX11_table_41 ?_
          refine sm_get (ci := 2) (C := RX2) (T := TX2) (N := 9) (v := .ref (adr ((a0 + 93) + 1))) hx hb hts hin2 hown hE hP (t11_4 ha0) rfl rfl 0 (by decide) (hts (.fieldLink RX11 215 "OrderMover$Ideal" "quotient" "LOrderMover$Quotient;") (by decide +kernel)) (fun _ h9 => h9) rfl dX11_table_44 ?_
          refine lv_iload_n hx hb dX11_table_47 rfl (lv_at hl 3 rfl) ?_
          refine lv_aload hx hb dX11_table_48 (lv_at hl 0 rfl) ?_
          refine sm_get (ci := 0) (C := RX0) (T := TX0) (N := 9) (v := .ref (adr (v35_1732 + 40))) hx hb hts hin0 hown hE hP hk35_1735 rfl rfl 5 (by decide) (hts (.fieldLink RX11 219 "OrderMover$Base" "vectors" "[[I") (by decide +kernel)) (fun _ h9 => h9) rfl dX11_table_50 ?_
          refine lv_iload_n hx hb dX11_table_53 rfl (lv_at hl 4 rfl) ?_
          obtain ⟨c54_1736, h⟩ := sm_ck h
          refine sm_aald22 hx hb hE hP (t0_5 hk35_1735) c54_1736 dX11_table_54 ?_
          refine lv_aload_n hx hb dX11_table_55 rfl (lv_at hl 1 rfl) ?_
          refine sm_get (ci := 11) (C := RX11) (T := TX11) (N := 11) (v := .ref (adr (a0 + 504))) hx hb hts hin11 hown hE hP ha0 rfl rfl 8 (by decide) (hts (.fieldLink RX11 60 "OrderMover" "vector" "[I") (by decide +kernel)) (fun _ h9 => h9) rfl dX11_table_56 ?_
          obtain ⟨M59_1738, hc59_1739, h⟩ := sm_bd h
          refine sm_cv (va_runV (As := [.int x2, .ref (adr ((v35_1732 + 40) + 1 + (x3).toNatClampNeg)), .ref (adr (a0 + 504))]) (rest := []) ⟨hx, hb, hml, hown, hts⟩ (k_X6_multiply l D cA adr hJ ((a0 + 93) + 1) x2 ((v35_1732 + 40) + 1 + (x3).toNatClampNeg) (a0 + 504) (t2_0 (t11_4 ha0)) (te22 (t0_5 hk35_1735) c54_1736) (t11_8 ha0) M35_1733 M59_1738 hc59_1739) (cwV 3 hts gX11_table_X6_multiply rfl rfl rfl (by decide +kernel) ⟨Nat.le_of_ble_eq_true rfl, Nat.le_of_ble_eq_true rfl⟩) ⟨smPc_bl, smRv hE hP (t2_0 (t11_4 ha0)) rfl (ci := 6) (q := (RX6, TX6, 5)) rfl, smPc_in [.ref (adr ((a0 + 93) + 1)), .int x2, .ref (adr ((v35_1732 + 40) + 1 + (x3).toNatClampNeg)), .ref (adr (a0 + 504))] hE hP⟩ rfl rfl hl.1 rfl (lv_room (Nat.le_of_ble_eq_true rfl)) dX11_table_59 ⟨Nat.zero_le _, Nat.zero_le _⟩) hS (fun H locs hP hS => ?_)
          refine lv_aload hx hb dX11_table_62 (lv_at hl 0 rfl) ?_
          refine sm_get (ci := 0) (C := RX0) (T := TX0) (N := 9) (v := .ref (adr (v35_1732 + 16))) hx hb hts hin0 hown hE hP hk35_1735 rfl rfl 2 (by decide) (hts (.fieldLink RX11 205 "OrderMover$Base" "span" "LOrderMover$Span;") (by decide +kernel)) (fun _ h9 => h9) rfl dX11_table_64 ?_
          refine lv_aload_n hx hb dX11_table_67 rfl (lv_at hl 1 rfl) ?_
          refine sm_get (ci := 11) (C := RX11) (T := TX11) (N := 11) (v := .ref (adr (a0 + 504))) hx hb hts hin11 hown hE hP ha0 rfl rfl 8 (by decide) (hts (.fieldLink RX11 60 "OrderMover" "vector" "[I") (by decide +kernel)) (fun _ h9 => h9) rfl dX11_table_68 ?_
          refine lv_aload_n hx hb dX11_table_71 rfl (lv_at hl 1 rfl) ?_
          refine sm_get (ci := 11) (C := RX11) (T := TX11) (N := 11) (v := .ref (adr (a0 + 506))) hx hb hts hin11 hown hE hP ha0 rfl rfl 10 (by decide) (hts (.fieldLink RX11 67 "OrderMover" "form" "[I") (by decide +kernel)) (fun _ h9 => h9) rfl dX11_table_72 ?_
          obtain ⟨M75_1741, hc75_1742, h⟩ := sm_bd h
          refine sm_cv (va_runV (As := [.ref (adr (a0 + 504)), .ref (adr (a0 + 506))]) (rest := []) ⟨hx, hb, hml, hown, hts⟩ (k_X9_express l D cA adr hJ (v35_1732 + 16) (a0 + 504) (a0 + 506) (t0_2 hk35_1735) (t11_8 ha0) (t11_10 ha0) M59_1738 M75_1741 hc75_1742) (cwV 2 hts gX11_table_X9_express rfl rfl rfl (by decide +kernel) ⟨Nat.le_of_ble_eq_true rfl, Nat.le_of_ble_eq_true rfl⟩) ⟨smPc_bl, smRv hE hP (t0_2 hk35_1735) rfl (ci := 9) (q := (RX9, TX9, 5)) rfl, smPc_in [.ref (adr (v35_1732 + 16)), .ref (adr (a0 + 504)), .ref (adr (a0 + 506))] hE hP⟩ rfl rfl hl.1 rfl (lv_room (Nat.le_of_ble_eq_true rfl)) dX11_table_75 ⟨Nat.zero_le _, Nat.zero_le _⟩) hS (fun H locs hP hS => ?_)
          refine lv_aload_n hx hb dX11_table_78 rfl (lv_at hl 1 rfl) ?_
          refine sm_get (ci := 11) (C := RX11) (T := TX11) (N := 11) (v := .ref (adr (a0 + 506))) hx hb hts hin11 hown hE hP ha0 rfl rfl 10 (by decide) (hts (.fieldLink RX11 67 "OrderMover" "form" "[I") (by decide +kernel)) (fun _ h9 => h9) rfl dX11_table_79 ?_
          refine lv_iload hx hb dX11_table_82 (lv_at hl 5 rfl) ?_
          obtain ⟨c84_1743, h⟩ := sm_ck h
          refine sm_iald hx hb hE hP (t11_10 ha0) c84_1743 dX11_table_84 ?_
          cases h
          exact sm_iret hx hb hr hlocks hP hS dX11_table_85
        · rw [if_pos c28_1731] at h
          refine lv_iconst (v := (-1 : Int32)) hx hb dX11_table_31 (by decide) ?_
          cases h
          exact sm_iret hx hb hr hlocks hP hS dX11_table_32
set_option maxHeartbeats 4000000 in
set_option maxRecDepth 100000 in
theorem k_X11_tail (l : Launch) (D : va_G) (cA : Nat → ClassId) (adr : Nat → Nat) (hJ : smJ 1 adr) (a0 : Nat) (x1 : Int32) (x2 : Int32) (x3 : Int32) (ha0 : smT 1 a0 11) (M : smM) (v1 : Int32) (M1 : smM) (h : m_X11_tail a0 x1 x2 x3 M = some (v1, M1)) : Met l yX11_tail wsX11_tail ({ frames := 6, cells := 0, slots := 0, locals := 144 }) (smPc D cA 1 adr M [.ref (adr a0), .int x1, .int x2, .int x3]) (smQi D cA 1 adr M1 v1) 0 0 (smA 1 adr) := by
  refine Met.ofW (cc := cX11_tail) (maxL := 4) (ret := (some .int)) (by decide) rfl ?_
  intro p e s m args below meth c s₁ B hml hv
  obtain ⟨rfl, hE, hP⟩ := hv
  have hx := B.exec
  have hb := B.bytes
  have hr := B.returns
  have hts := atoms_spec (ws := wsX11_tail) B.pre
  have hown : s.vm.findClass RX11 = some m.cls := findClass_of_methodNamed B.named
  have hlocks := B.notSynchronized
  have hS : va_S (smA 1 adr) s.heap s.heap [] := va_S.rf
  have hP : smP D cA 1 adr M s.heap := hP
  have hl := lv_entry ([.ref (adr a0), .int x1, .int x2, .int x3]) (n := 4) (Nat.le_of_ble_eq_true rfl)
  rw [lg_entry_eq]
  generalize (lg_sl ([.ref (adr a0), .int x1, .int x2, .int x3]) ++ List.replicate (4 - (lg_sl ([.ref (adr a0), .int x1, .int x2, .int x3])).length) Slot.unset).toArray = ls at hl ⊢
  have hl : lv_has ls 4 [(0, .ref (adr a0)), (1, .int x1), (2, .int x2), (3, .int x3)] := hl
  unfold m_X11_tail at h
  have hin0 : ∀ w ∈ u_ws RX0 TX0 9, w ∈ wsX11_tail := by decide +kernel
  have hin4 : ∀ w ∈ u_ws RX4 TX4 4, w ∈ wsX11_tail := by decide +kernel
  refine lv_iload_n hx hb dX11_tail_0 rfl (lv_at hl 1 rfl) ?_
  obtain ⟨v1_1744, hc1_1746, h⟩ := sm_bd h
  refine sm_ci (va_runS (As := [.int x1]) (rest := []) ⟨hx, hb, hml, hown, hts⟩ (k_X11_isOrder l D cA adr hJ x1  M v1_1744 hc1_1746) (va_cwS 1 hts gX11_tail_X11_isOrder rfl rfl rfl (by decide +kernel) ⟨Nat.le_of_ble_eq_true rfl, Nat.le_of_ble_eq_true rfl⟩) ⟨smPc_bl, smPc_in [.int x1] hE hP⟩ rfl rfl hl.1 rfl (lv_room (Nat.le_of_ble_eq_true rfl)) dX11_tail_1 ⟨Nat.zero_le _, Nat.zero_le _⟩) hS (fun H locs hP hS => ?_)
  refine lv_if_eq (tgt := 34) hx hb dX11_tail_4 (by decide) (fun c4_1747 => ?_) (fun c4_1747 => ?_)
  · rw [if_pos c4_1747] at h
    refine lv_iconst (v := (-1 : Int32)) hx hb dX11_tail_34 (by decide) ?_
    cases h
    exact sm_iret hx hb hr hlocks hP hS dX11_tail_35
  · rw [if_neg c4_1747] at h
    refine lv_aload_n hx hb dX11_tail_7 rfl (lv_at hl 0 rfl) ?_
    refine lv_iload_n hx hb dX11_tail_8 rfl (lv_at hl 3 rfl) ?_
    obtain ⟨v9_1748, hc9_1750, h⟩ := sm_bd h
    refine sm_ci (va_runV (As := [.int x3]) (rest := []) ⟨hx, hb, hml, hown, hts⟩ (k_X11_isStair l D cA adr hJ a0 x3 ha0 M v9_1748 hc9_1750) (cwV 1 hts gX11_tail_X11_isStair rfl rfl rfl (by decide +kernel) ⟨Nat.le_of_ble_eq_true rfl, Nat.le_of_ble_eq_true rfl⟩) ⟨smPc_bl, smRv hE hP ha0 rfl (ci := 11) (q := (RX11, TX11, 11)) rfl, smPc_in [.ref (adr a0), .int x3] hE hP⟩ rfl rfl hl.1 rfl (lv_room (Nat.le_of_ble_eq_true rfl)) dX11_tail_9 ⟨Nat.zero_le _, Nat.zero_le _⟩) hS (fun H locs hP hS => ?_)
    refine lv_if_eq (tgt := 34) hx hb dX11_tail_12 (by decide) (fun c12_1751 => ?_) (fun c12_1751 => ?_)
    · rw [if_pos c12_1751] at h
      refine lv_iconst (v := (-1 : Int32)) hx hb dX11_tail_34 (by decide) ?_
      cases h
      exact sm_iret hx hb hr hlocks hP hS dX11_tail_35
    · rw [if_neg c12_1751] at h
      refine lv_iload_n hx hb dX11_tail_15 rfl (lv_at hl 2 rfl) ?_
      refine lv_if_lt (tgt := 34) hx hb dX11_tail_16 (by decide) (fun c16_1752 => ?_) (fun c16_1752 => ?_)
      · rw [if_pos c16_1752] at h
        refine lv_iconst (v := (-1 : Int32)) hx hb dX11_tail_34 (by decide) ?_
        cases h
        exact sm_iret hx hb hr hlocks hP hS dX11_tail_35
      · rw [if_neg c16_1752] at h
        refine lv_iload_n hx hb dX11_tail_19 rfl (lv_at hl 2 rfl) ?_
        refine lv_aload_n hx hb dX11_tail_20 rfl (lv_at hl 0 rfl) ?_
        refine lv_iload_n hx hb dX11_tail_21 rfl (lv_at hl 1 rfl) ?_
        obtain ⟨v22_1753, M22_1754, hc22_1755, h⟩ := sm_bd2 h
        refine sm_cr (va_runV (As := [.int x1]) (rest := [.int x2]) ⟨hx, hb, hml, hown, hts⟩ (k_X11_baseIn l D cA adr hJ a0 x1 ha0 M v22_1753 M22_1754 hc22_1755) (cwV 1 hts gX11_tail_X11_baseIn rfl rfl rfl (by decide +kernel) ⟨Nat.le_of_ble_eq_true rfl, Nat.le_of_ble_eq_true rfl⟩) ⟨smPc_bl, smRv hE hP ha0 rfl (ci := 11) (q := (RX11, TX11, 11)) rfl, smPc_in [.ref (adr a0), .int x1] hE hP⟩ rfl rfl hl.1 rfl (lv_room (Nat.le_of_ble_eq_true rfl)) dX11_tail_22 ⟨Nat.zero_le _, Nat.zero_le _⟩) hS (fun H locs hk22_1756 hP hS => ?_)
        refine sm_get (ci := 0) (C := RX0) (T := TX0) (N := 9) (v := .ref (adr (v22_1753 + 2))) hx hb hts hin0 hown hE hP hk22_1756 rfl rfl 1 (by decide) (hts (.fieldLink RX11 161 "OrderMover$Base" "members" "LOrderMover$Members;") (by decide +kernel)) (fun _ h9 => h9) rfl dX11_tail_25 ?_
        refine sm_get (ci := 4) (C := RX4) (T := TX4) (N := 4) (v := .int (M22_1754 (v22_1753 + 2) 0)) hx hb hts hin4 hown hE hP (t0_1 hk22_1756) rfl rfl 0 (by decide) (hts (.fieldLink RX11 165 "OrderMover$Members" "howMany" "I") (by decide +kernel)) (fun _ h9 => h9) rfl dX11_tail_28 ?_
        refine lv_icmp_lt (tgt := 36) hx hb dX11_tail_31 (by decide) (fun c31_1757 => ?_) (fun c31_1757 => ?_)
        · rw [if_pos c31_1757] at h
          refine lv_aload_n hx hb dX11_tail_36 rfl (lv_at hl 0 rfl) ?_
          refine lv_iload_n hx hb dX11_tail_37 rfl (lv_at hl 1 rfl) ?_
          obtain ⟨v38_1758, M38_1759, hc38_1760, h⟩ := sm_bd2 h
          refine sm_cr (va_runV (As := [.int x1]) (rest := []) ⟨hx, hb, hml, hown, hts⟩ (k_X11_baseIn l D cA adr hJ a0 x1 ha0 M22_1754 v38_1758 M38_1759 hc38_1760) (cwV 1 hts gX11_tail_X11_baseIn rfl rfl rfl (by decide +kernel) ⟨Nat.le_of_ble_eq_true rfl, Nat.le_of_ble_eq_true rfl⟩) ⟨smPc_bl, smRv hE hP ha0 rfl (ci := 11) (q := (RX11, TX11, 11)) rfl, smPc_in [.ref (adr a0), .int x1] hE hP⟩ rfl rfl hl.1 rfl (lv_room (Nat.le_of_ble_eq_true rfl)) dX11_tail_38 ⟨Nat.zero_le _, Nat.zero_le _⟩) hS (fun H locs hk38_1761 hP hS => ?_)
          refine sm_get (ci := 0) (C := RX0) (T := TX0) (N := 9) (v := .ref (adr (v38_1758 + 2))) hx hb hts hin0 hown hE hP hk38_1761 rfl rfl 1 (by decide) (hts (.fieldLink RX11 161 "OrderMover$Base" "members" "LOrderMover$Members;") (by decide +kernel)) (fun _ h9 => h9) rfl dX11_tail_41 ?_
          refine sm_get (ci := 4) (C := RX4) (T := TX4) (N := 4) (v := .ref (adr ((v38_1758 + 2) + 3))) hx hb hts hin4 hown hE hP (t0_1 hk38_1761) rfl rfl 3 (by decide) (hts (.fieldLink RX11 188 "OrderMover$Members" "tails" "[[I") (by decide +kernel)) (fun _ h9 => h9) rfl dX11_tail_44 ?_
          refine lv_iload_n hx hb dX11_tail_47 rfl (lv_at hl 2 rfl) ?_
          obtain ⟨c48_1762, h⟩ := sm_ck h
          refine sm_aald22 hx hb hE hP (t4_3 (t0_1 hk38_1761)) c48_1762 dX11_tail_48 ?_
          refine lv_iload_n hx hb dX11_tail_49 rfl (lv_at hl 3 rfl) ?_
          obtain ⟨c50_1763, h⟩ := sm_ck h
          refine sm_iald hx hb hE hP (te22 (t4_3 (t0_1 hk38_1761)) c48_1762) c50_1763 dX11_tail_50 ?_
          cases h
          exact sm_iret hx hb hr hlocks hP hS dX11_tail_51
        · rw [if_neg c31_1757] at h
          refine lv_iconst (v := (-1 : Int32)) hx hb dX11_tail_34 (by decide) ?_
          cases h
          exact sm_iret hx hb hr hlocks hP hS dX11_tail_35
set_option maxHeartbeats 4000000 in
set_option maxRecDepth 100000 in
theorem k_X11_term (l : Launch) (D : va_G) (cA : Nat → ClassId) (adr : Nat → Nat) (hJ : smJ 1 adr) (a0 : Nat) (x1 : Int32) (x2 : Int32) (x3 : Int32) (ha0 : smT 1 a0 11) (M : smM) (v1 : Int32) (h : m_X11_term a0 x1 x2 x3 M = some v1) : Met l yX11_term wsX11_term ({ frames := 2, cells := 0, slots := 0, locals := 42 }) (smPc D cA 1 adr M [.ref (adr a0), .int x1, .int x2, .int x3]) (smQi D cA 1 adr M v1) 0 0 (smA 1 adr) := by
  refine Met.ofW (cc := cX11_term) (maxL := 6) (ret := (some .int)) (by decide) rfl ?_
  intro p e s m args below meth c s₁ B hml hv
  obtain ⟨rfl, hE, hP⟩ := hv
  have hx := B.exec
  have hb := B.bytes
  have hr := B.returns
  have hts := atoms_spec (ws := wsX11_term) B.pre
  have hown : s.vm.findClass RX11 = some m.cls := findClass_of_methodNamed B.named
  have hlocks := B.notSynchronized
  have hS : va_S (smA 1 adr) s.heap s.heap [] := va_S.rf
  have hP : smP D cA 1 adr M s.heap := hP
  have hl := lv_entry ([.ref (adr a0), .int x1, .int x2, .int x3]) (n := 6) (Nat.le_of_ble_eq_true rfl)
  rw [lg_entry_eq]
  generalize (lg_sl ([.ref (adr a0), .int x1, .int x2, .int x3]) ++ List.replicate (6 - (lg_sl ([.ref (adr a0), .int x1, .int x2, .int x3])).length) Slot.unset).toArray = ls at hl ⊢
  have hl : lv_has ls 6 [(0, .ref (adr a0)), (1, .int x1), (2, .int x2), (3, .int x3)] := hl
  unfold m_X11_term at h
  have hin5 : ∀ w ∈ u_ws RX5 TX5 4, w ∈ wsX11_term := by decide +kernel
  have hin8 : ∀ w ∈ u_ws RX8 TX8 4, w ∈ wsX11_term := by decide +kernel
  have hin11 : ∀ w ∈ u_ws RX11 TX11 11, w ∈ wsX11_term := by decide +kernel
  refine lv_iload_n hx hb dX11_term_0 rfl (lv_at hl 1 rfl) ?_
  obtain ⟨v1_1764, hc1_1766, h⟩ := sm_bd h
  refine sm_ci (va_runS (As := [.int x1]) (rest := []) ⟨hx, hb, hml, hown, hts⟩ (k_X11_isSlot l D cA adr hJ x1  M v1_1764 hc1_1766) (va_cwS 1 hts gX11_term_X11_isSlot rfl rfl rfl (by decide +kernel) ⟨Nat.le_of_ble_eq_true rfl, Nat.le_of_ble_eq_true rfl⟩) ⟨smPc_bl, smPc_in [.int x1] hE hP⟩ rfl rfl hl.1 rfl (lv_room (Nat.le_of_ble_eq_true rfl)) dX11_term_1 ⟨Nat.zero_le _, Nat.zero_le _⟩) hS (fun H locs hP hS => ?_)
  refine lv_if_eq (tgt := 20) hx hb dX11_term_4 (by decide) (fun c4_1767 => ?_) (fun c4_1767 => ?_)
  · rw [if_pos c4_1767] at h
    refine lv_iconst (v := (-1 : Int32)) hx hb dX11_term_20 (by decide) ?_
    cases h
    exact sm_iret hx hb hr hlocks hP hS dX11_term_21
  · rw [if_neg c4_1767] at h
    refine lv_iload_n hx hb dX11_term_7 rfl (lv_at hl 2 rfl) ?_
    refine lv_if_lt (tgt := 20) hx hb dX11_term_8 (by decide) (fun c8_1768 => ?_) (fun c8_1768 => ?_)
    · rw [if_pos c8_1768] at h
      refine lv_iconst (v := (-1 : Int32)) hx hb dX11_term_20 (by decide) ?_
      cases h
      exact sm_iret hx hb hr hlocks hP hS dX11_term_21
    · rw [if_neg c8_1768] at h
      refine lv_iload_n hx hb dX11_term_11 rfl (lv_at hl 3 rfl) ?_
      refine lv_iconst (v := (0 : Int32)) hx hb dX11_term_12 (by decide) ?_
      refine lv_iconst (v := (2 : Int32)) hx hb dX11_term_13 (by decide) ?_
      obtain ⟨v14_1769, hc14_1771, h⟩ := sm_bd h
      refine sm_ci (va_runS (As := [.int x3, .int (0 : Int32), .int (2 : Int32)]) (rest := []) ⟨hx, hb, hml, hown, hts⟩ (k_X11_isWithin l D cA adr hJ x3 (0 : Int32) (2 : Int32)  M v14_1769 hc14_1771) (va_cwS 3 hts gX11_term_X11_isWithin rfl rfl rfl (by decide +kernel) ⟨Nat.le_of_ble_eq_true rfl, Nat.le_of_ble_eq_true rfl⟩) ⟨smPc_bl, smPc_in [.int x3, .int (0 : Int32), .int (2 : Int32)] hE hP⟩ rfl rfl hl.1 rfl (lv_room (Nat.le_of_ble_eq_true rfl)) dX11_term_14 ⟨Nat.zero_le _, Nat.zero_le _⟩) hS (fun H locs hP hS => ?_)
      refine lv_if_ne (tgt := 22) hx hb dX11_term_17 (by decide) (fun c17_1772 => ?_) (fun c17_1772 => ?_)
      · rw [if_neg c17_1772] at h
        refine lv_aload_n hx hb dX11_term_22 rfl (lv_at hl 0 rfl) ?_
        refine sm_get (ci := 11) (C := RX11) (T := TX11) (N := 11) (v := .ref (adr (a0 + 12))) hx hb hts hin11 hown hE hP ha0 rfl rfl 3 (by decide) (hts (.fieldLink RX11 26 "OrderMover" "slots" "[LOrderMover$Slot;") (by decide +kernel)) (fun _ h9 => h9) rfl dX11_term_23 ?_
        refine lv_iload_n hx hb dX11_term_26 rfl (lv_at hl 1 rfl) ?_
        obtain ⟨c27_1773, h⟩ := sm_ck h
        refine sm_aald24 hx hb hE hP (t11_3 ha0) c27_1773 dX11_term_27 ?_
        refine lv_iconst (v := (1 : Int32)) hx hb dX11_term_28 (by decide) ?_
        obtain ⟨v29_1774, hc29_1776, h⟩ := sm_bd h
        refine sm_ci (va_runV (As := [.int (1 : Int32)]) (rest := []) ⟨hx, hb, hml, hown, hts⟩ (k_X8_findWanting l D cA adr hJ ((a0 + 12) + 1 + 20 * (x1).toNatClampNeg) (1 : Int32) (te24 (t11_3 ha0) c27_1773) M v29_1774 hc29_1776) (cwV 1 hts gX11_term_X8_findWanting rfl rfl rfl (by decide +kernel) ⟨Nat.le_of_ble_eq_true rfl, Nat.le_of_ble_eq_true rfl⟩) ⟨smPc_bl, smRv hE hP (te24 (t11_3 ha0) c27_1773) rfl (ci := 8) (q := (RX8, TX8, 4)) rfl, smPc_in [.ref (adr ((a0 + 12) + 1 + 20 * (x1).toNatClampNeg)), .int (1 : Int32)] hE hP⟩ rfl rfl hl.1 rfl (lv_room (Nat.le_of_ble_eq_true rfl)) dX11_term_29 ⟨Nat.zero_le _, Nat.zero_le _⟩) hS (fun H locs hP hS => ?_)
        refine lv_istore (lv' := [(4, .int v29_1774), (0, .ref (adr a0)), (1, .int x1), (2, .int x2), (3, .int x3)]) hx hb dX11_term_32 hl (by decide) rfl (fun ls hl => ?_)
        refine lv_iload hx hb dX11_term_34 (lv_at hl 0 rfl) ?_
        refine lv_if_eq (tgt := 42) hx hb dX11_term_36 (by decide) (fun c36_1777 => ?_) (fun c36_1777 => ?_)
        · rw [if_pos c36_1777] at h
          refine lv_aload_n hx hb dX11_term_42 rfl (lv_at hl 1 rfl) ?_
          refine sm_get (ci := 11) (C := RX11) (T := TX11) (N := 11) (v := .ref (adr (a0 + 12))) hx hb hts hin11 hown hE hP ha0 rfl rfl 3 (by decide) (hts (.fieldLink RX11 26 "OrderMover" "slots" "[LOrderMover$Slot;") (by decide +kernel)) (fun _ h9 => h9) rfl dX11_term_43 ?_
          refine lv_iload_n hx hb dX11_term_46 rfl (lv_at hl 2 rfl) ?_
          obtain ⟨c47_1778, h⟩ := sm_ck h
          refine sm_aald24 hx hb hE hP (t11_3 ha0) c47_1778 dX11_term_47 ?_
          refine sm_get (ci := 8) (C := RX8) (T := TX8) (N := 4) (v := .ref (adr (((a0 + 12) + 1 + 20 * (x1).toNatClampNeg) + 1))) hx hb hts hin8 hown hE hP (te24 (t11_3 ha0) c47_1778) rfl rfl 1 (by decide) (hts (.fieldLink RX11 255 "OrderMover$Slot" "polynomial" "LOrderMover$Polynomial;") (by decide +kernel)) (fun _ h9 => h9) rfl dX11_term_48 ?_
          refine lv_astore (lv' := [(5, .ref (adr (((a0 + 12) + 1 + 20 * (x1).toNatClampNeg) + 1))), (4, .int v29_1774), (0, .ref (adr a0)), (1, .int x1), (2, .int x2), (3, .int x3)]) hx hb dX11_term_51 hl (by decide) rfl (fun ls hl => ?_)
          refine lv_iload_n hx hb dX11_term_53 rfl (lv_at hl 4 rfl) ?_
          refine lv_aload hx hb dX11_term_54 (lv_at hl 0 rfl) ?_
          refine sm_get (ci := 5) (C := RX5) (T := TX5) (N := 4) (v := .int (M (((a0 + 12) + 1 + 20 * (x1).toNatClampNeg) + 1) 0)) hx hb hts hin5 hown hE hP (t8_1 (te24 (t11_3 ha0) c47_1778)) rfl rfl 0 (by decide) (hts (.fieldLink RX11 279 "OrderMover$Polynomial" "howMany" "I") (by decide +kernel)) (fun _ h9 => h9) rfl dX11_term_56 ?_
          refine lv_icmp_lt (tgt := 65) hx hb dX11_term_59 (by decide) (fun c59_1779 => ?_) (fun c59_1779 => ?_)
          · rw [if_pos c59_1779] at h
            refine lv_iload_n hx hb dX11_term_65 rfl (lv_at hl 5 rfl) ?_
            refine lv_if_ne (tgt := 79) hx hb dX11_term_66 (by decide) (fun c66_1780 => ?_) (fun c66_1780 => ?_)
            · rw [if_neg c66_1780] at h
              refine lv_iload_n hx hb dX11_term_79 rfl (lv_at hl 5 rfl) ?_
              refine lv_iconst (v := (1 : Int32)) hx hb dX11_term_80 (by decide) ?_
              refine lv_icmp_ne (tgt := 94) hx hb dX11_term_81 (by decide) (fun c81_1781 => ?_) (fun c81_1781 => ?_)
              · rw [if_neg c81_1781] at h
                refine lv_aload hx hb dX11_term_94 (lv_at hl 0 rfl) ?_
                refine sm_get (ci := 5) (C := RX5) (T := TX5) (N := 4) (v := .ref (adr ((((a0 + 12) + 1 + 20 * (x1).toNatClampNeg) + 1) + 3))) hx hb hts hin5 hown hE hP (t8_1 (te24 (t11_3 ha0) c47_1778)) rfl rfl 3 (by decide) (hts (.fieldLink RX11 282 "OrderMover$Polynomial" "ys" "[I") (by decide +kernel)) (fun _ h9 => h9) rfl dX11_term_96 ?_
                refine lv_iload_n hx hb dX11_term_99 rfl (lv_at hl 4 rfl) ?_
                obtain ⟨c100_1782, h⟩ := sm_ck h
                refine sm_iald hx hb hE hP (t5_3 (t8_1 (te24 (t11_3 ha0) c47_1778))) c100_1782 dX11_term_100 ?_
                cases h
                exact sm_iret hx hb hr hlocks hP hS dX11_term_101
              · rw [if_pos c81_1781] at h
                refine lv_aload hx hb dX11_term_84 (lv_at hl 0 rfl) ?_
                refine sm_get (ci := 5) (C := RX5) (T := TX5) (N := 4) (v := .ref (adr ((((a0 + 12) + 1 + 20 * (x1).toNatClampNeg) + 1) + 2))) hx hb hts hin5 hown hE hP (t8_1 (te24 (t11_3 ha0) c47_1778)) rfl rfl 2 (by decide) (hts (.fieldLink RX11 281 "OrderMover$Polynomial" "xs" "[I") (by decide +kernel)) (fun _ h9 => h9) rfl dX11_term_86 ?_
                refine lv_iload_n hx hb dX11_term_89 rfl (lv_at hl 4 rfl) ?_
                obtain ⟨c90_1783, h⟩ := sm_ck h
                refine sm_iald hx hb hE hP (t5_2 (t8_1 (te24 (t11_3 ha0) c47_1778))) c90_1783 dX11_term_90 ?_
                refine lv_goto (tgt := 101) hx hb dX11_term_91 (by decide) ?_
                cases h
                exact sm_iret hx hb hr hlocks hP hS dX11_term_101
            · rw [if_pos c66_1780] at h
              refine lv_aload hx hb dX11_term_69 (lv_at hl 0 rfl) ?_
              refine sm_get (ci := 5) (C := RX5) (T := TX5) (N := 4) (v := .ref (adr ((((a0 + 12) + 1 + 20 * (x1).toNatClampNeg) + 1) + 1))) hx hb hts hin5 hown hE hP (t8_1 (te24 (t11_3 ha0) c47_1778)) rfl rfl 1 (by decide) (hts (.fieldLink RX11 280 "OrderMover$Polynomial" "numbers" "[I") (by decide +kernel)) (fun _ h9 => h9) rfl dX11_term_71 ?_
              refine lv_iload_n hx hb dX11_term_74 rfl (lv_at hl 4 rfl) ?_
              obtain ⟨c75_1784, h⟩ := sm_ck h
              refine sm_iald hx hb hE hP (t5_1 (t8_1 (te24 (t11_3 ha0) c47_1778))) c75_1784 dX11_term_75 ?_
              refine lv_goto (tgt := 101) hx hb dX11_term_76 (by decide) ?_
              cases h
              exact sm_iret hx hb hr hlocks hP hS dX11_term_101
          · rw [if_neg c59_1779] at h
            refine lv_bipush (v := (-4 : Int32)) hx hb dX11_term_62 (by decide) ?_
            cases h
            exact sm_iret hx hb hr hlocks hP hS dX11_term_64
        · rw [if_neg c36_1777] at h
          refine lv_iload hx hb dX11_term_39 (lv_at hl 0 rfl) ?_
          cases h
          exact sm_iret hx hb hr hlocks hP hS dX11_term_41
      · rw [if_pos c17_1772] at h
        refine lv_iconst (v := (-1 : Int32)) hx hb dX11_term_20 (by decide) ?_
        cases h
        exact sm_iret hx hb hr hlocks hP hS dX11_term_21
set_option maxHeartbeats 4000000 in
set_option maxRecDepth 100000 in
theorem k_X11_times (l : Launch) (D : va_G) (cA : Nat → ClassId) (adr : Nat → Nat) (hJ : smJ 1 adr) (a0 : Nat) (x1 : Int32) (x2 : Int32) (x3 : Int32) (ha0 : smT 1 a0 11) (M : smM) (v1 : Int32) (M1 : smM) (h : m_X11_times a0 x1 x2 x3 M = some (v1, M1)) : Met l yX11_times wsX11_times ({ frames := 2, cells := 0, slots := 0, locals := 42 }) (smPc D cA 1 adr M [.ref (adr a0), .int x1, .int x2, .int x3]) (smQi D cA 1 adr M1 v1) 0 0 (smA 1 adr) := by
  refine Met.ofW (cc := cX11_times) (maxL := 6) (ret := (some .int)) (by decide) rfl ?_
  intro p e s m args below meth c s₁ B hml hv
  obtain ⟨rfl, hE, hP⟩ := hv
  have hx := B.exec
  have hb := B.bytes
  have hr := B.returns
  have hts := atoms_spec (ws := wsX11_times) B.pre
  have hown : s.vm.findClass RX11 = some m.cls := findClass_of_methodNamed B.named
  have hlocks := B.notSynchronized
  have hS : va_S (smA 1 adr) s.heap s.heap [] := va_S.rf
  have hP : smP D cA 1 adr M s.heap := hP
  have hl := lv_entry ([.ref (adr a0), .int x1, .int x2, .int x3]) (n := 6) (Nat.le_of_ble_eq_true rfl)
  rw [lg_entry_eq]
  generalize (lg_sl ([.ref (adr a0), .int x1, .int x2, .int x3]) ++ List.replicate (6 - (lg_sl ([.ref (adr a0), .int x1, .int x2, .int x3])).length) Slot.unset).toArray = ls at hl ⊢
  have hl : lv_has ls 6 [(0, .ref (adr a0)), (1, .int x1), (2, .int x2), (3, .int x3)] := hl
  unfold m_X11_times at h
  have hin5 : ∀ w ∈ u_ws RX5 TX5 4, w ∈ wsX11_times := by decide +kernel
  have hin8 : ∀ w ∈ u_ws RX8 TX8 4, w ∈ wsX11_times := by decide +kernel
  have hin11 : ∀ w ∈ u_ws RX11 TX11 11, w ∈ wsX11_times := by decide +kernel
  refine lv_iload_n hx hb dX11_times_0 rfl (lv_at hl 1 rfl) ?_
  obtain ⟨v1_1785, hc1_1787, h⟩ := sm_bd h
  refine sm_ci (va_runS (As := [.int x1]) (rest := []) ⟨hx, hb, hml, hown, hts⟩ (k_X11_isSlot l D cA adr hJ x1  M v1_1785 hc1_1787) (va_cwS 1 hts gX11_times_X11_isSlot rfl rfl rfl (by decide +kernel) ⟨Nat.le_of_ble_eq_true rfl, Nat.le_of_ble_eq_true rfl⟩) ⟨smPc_bl, smPc_in [.int x1] hE hP⟩ rfl rfl hl.1 rfl (lv_room (Nat.le_of_ble_eq_true rfl)) dX11_times_1 ⟨Nat.zero_le _, Nat.zero_le _⟩) hS (fun H locs hP hS => ?_)
  refine lv_if_eq (tgt := 15) hx hb dX11_times_4 (by decide) (fun c4_1788 => ?_) (fun c4_1788 => ?_)
  · rw [if_pos c4_1788] at h
    refine lv_iconst (v := (-1 : Int32)) hx hb dX11_times_15 (by decide) ?_
    cases h
    exact sm_iret hx hb hr hlocks hP hS dX11_times_16
  · rw [if_neg c4_1788] at h
    refine lv_iload_n hx hb dX11_times_7 rfl (lv_at hl 2 rfl) ?_
    refine lv_if_lt (tgt := 15) hx hb dX11_times_8 (by decide) (fun c8_1789 => ?_) (fun c8_1789 => ?_)
    · rw [if_pos c8_1789] at h
      refine lv_iconst (v := (-1 : Int32)) hx hb dX11_times_15 (by decide) ?_
      cases h
      exact sm_iret hx hb hr hlocks hP hS dX11_times_16
    · rw [if_neg c8_1789] at h
      refine lv_iload_n hx hb dX11_times_11 rfl (lv_at hl 3 rfl) ?_
      refine lv_if_ge (tgt := 17) hx hb dX11_times_12 (by decide) (fun c12_1790 => ?_) (fun c12_1790 => ?_)
      · rw [if_pos c12_1790] at h
        refine lv_aload_n hx hb dX11_times_17 rfl (lv_at hl 0 rfl) ?_
        refine sm_get (ci := 11) (C := RX11) (T := TX11) (N := 11) (v := .ref (adr (a0 + 12))) hx hb hts hin11 hown hE hP ha0 rfl rfl 3 (by decide) (hts (.fieldLink RX11 26 "OrderMover" "slots" "[LOrderMover$Slot;") (by decide +kernel)) (fun _ h9 => h9) rfl dX11_times_18 ?_
        refine lv_iload_n hx hb dX11_times_21 rfl (lv_at hl 1 rfl) ?_
        obtain ⟨c22_1791, h⟩ := sm_ck h
        refine sm_aald24 hx hb hE hP (t11_3 ha0) c22_1791 dX11_times_22 ?_
        refine lv_iconst (v := (1 : Int32)) hx hb dX11_times_23 (by decide) ?_
        obtain ⟨v24_1792, hc24_1794, h⟩ := sm_bd h
        refine sm_ci (va_runV (As := [.int (1 : Int32)]) (rest := []) ⟨hx, hb, hml, hown, hts⟩ (k_X8_findWanting l D cA adr hJ ((a0 + 12) + 1 + 20 * (x1).toNatClampNeg) (1 : Int32) (te24 (t11_3 ha0) c22_1791) M v24_1792 hc24_1794) (cwV 1 hts gX11_times_X8_findWanting rfl rfl rfl (by decide +kernel) ⟨Nat.le_of_ble_eq_true rfl, Nat.le_of_ble_eq_true rfl⟩) ⟨smPc_bl, smRv hE hP (te24 (t11_3 ha0) c22_1791) rfl (ci := 8) (q := (RX8, TX8, 4)) rfl, smPc_in [.ref (adr ((a0 + 12) + 1 + 20 * (x1).toNatClampNeg)), .int (1 : Int32)] hE hP⟩ rfl rfl hl.1 rfl (lv_room (Nat.le_of_ble_eq_true rfl)) dX11_times_24 ⟨Nat.zero_le _, Nat.zero_le _⟩) hS (fun H locs hP hS => ?_)
        refine lv_istore (lv' := [(4, .int v24_1792), (0, .ref (adr a0)), (1, .int x1), (2, .int x2), (3, .int x3)]) hx hb dX11_times_27 hl (by decide) rfl (fun ls hl => ?_)
        refine lv_iload hx hb dX11_times_29 (lv_at hl 0 rfl) ?_
        refine lv_if_eq (tgt := 37) hx hb dX11_times_31 (by decide) (fun c31_1795 => ?_) (fun c31_1795 => ?_)
        · rw [if_pos c31_1795] at h
          refine lv_aload_n hx hb dX11_times_37 rfl (lv_at hl 1 rfl) ?_
          refine sm_get (ci := 11) (C := RX11) (T := TX11) (N := 11) (v := .ref (adr (a0 + 12))) hx hb hts hin11 hown hE hP ha0 rfl rfl 3 (by decide) (hts (.fieldLink RX11 26 "OrderMover" "slots" "[LOrderMover$Slot;") (by decide +kernel)) (fun _ h9 => h9) rfl dX11_times_38 ?_
          refine lv_iload_n hx hb dX11_times_41 rfl (lv_at hl 2 rfl) ?_
          obtain ⟨c42_1796, h⟩ := sm_ck h
          refine sm_aald24 hx hb hE hP (t11_3 ha0) c42_1796 dX11_times_42 ?_
          refine sm_get (ci := 8) (C := RX8) (T := TX8) (N := 4) (v := .ref (adr (((a0 + 12) + 1 + 20 * (x1).toNatClampNeg) + 1))) hx hb hts hin8 hown hE hP (te24 (t11_3 ha0) c42_1796) rfl rfl 1 (by decide) (hts (.fieldLink RX11 255 "OrderMover$Slot" "polynomial" "LOrderMover$Polynomial;") (by decide +kernel)) (fun _ h9 => h9) rfl dX11_times_43 ?_
          refine lv_astore (lv' := [(5, .ref (adr (((a0 + 12) + 1 + 20 * (x1).toNatClampNeg) + 1))), (4, .int v24_1792), (0, .ref (adr a0)), (1, .int x1), (2, .int x2), (3, .int x3)]) hx hb dX11_times_46 hl (by decide) rfl (fun ls hl => ?_)
          refine lv_aload hx hb dX11_times_48 (lv_at hl 0 rfl) ?_
          refine lv_iload_n hx hb dX11_times_50 rfl (lv_at hl 4 rfl) ?_
          refine lv_iload_n hx hb dX11_times_51 rfl (lv_at hl 5 rfl) ?_
          obtain ⟨v52_1797, hc52_1799, h⟩ := sm_bd h
          refine sm_ci (va_runV (As := [.int x2, .int x3]) (rest := []) ⟨hx, hb, hml, hown, hts⟩ (k_X5_canRise l D cA adr hJ (((a0 + 12) + 1 + 20 * (x1).toNatClampNeg) + 1) x2 x3 (t8_1 (te24 (t11_3 ha0) c42_1796)) M v52_1797 hc52_1799) (cwV 2 hts gX11_times_X5_canRise rfl rfl rfl (by decide +kernel) ⟨Nat.le_of_ble_eq_true rfl, Nat.le_of_ble_eq_true rfl⟩) ⟨smPc_bl, smRv hE hP (t8_1 (te24 (t11_3 ha0) c42_1796)) rfl (ci := 5) (q := (RX5, TX5, 4)) rfl, smPc_in [.ref (adr (((a0 + 12) + 1 + 20 * (x1).toNatClampNeg) + 1)), .int x2, .int x3] hE hP⟩ rfl rfl hl.1 rfl (lv_room (Nat.le_of_ble_eq_true rfl)) dX11_times_52 ⟨Nat.zero_le _, Nat.zero_le _⟩) hS (fun H locs hP hS => ?_)
          refine lv_if_ne (tgt := 61) hx hb dX11_times_55 (by decide) (fun c55_1800 => ?_) (fun c55_1800 => ?_)
          · rw [if_neg c55_1800] at h
            refine lv_aload hx hb dX11_times_61 (lv_at hl 0 rfl) ?_
            refine lv_iload_n hx hb dX11_times_63 rfl (lv_at hl 4 rfl) ?_
            refine lv_iload_n hx hb dX11_times_64 rfl (lv_at hl 5 rfl) ?_
            obtain ⟨M65_1802, hc65_1803, h⟩ := sm_bd h
            refine sm_cv (va_runV (As := [.int x2, .int x3]) (rest := []) ⟨hx, hb, hml, hown, hts⟩ (k_X5_rise l D cA adr hJ (((a0 + 12) + 1 + 20 * (x1).toNatClampNeg) + 1) x2 x3 (t8_1 (te24 (t11_3 ha0) c42_1796)) M M65_1802 hc65_1803) (cwV 2 hts gX11_times_X5_rise rfl rfl rfl (by decide +kernel) ⟨Nat.le_of_ble_eq_true rfl, Nat.le_of_ble_eq_true rfl⟩) ⟨smPc_bl, smRv hE hP (t8_1 (te24 (t11_3 ha0) c42_1796)) rfl (ci := 5) (q := (RX5, TX5, 4)) rfl, smPc_in [.ref (adr (((a0 + 12) + 1 + 20 * (x1).toNatClampNeg) + 1)), .int x2, .int x3] hE hP⟩ rfl rfl hl.1 rfl (lv_room (Nat.le_of_ble_eq_true rfl)) dX11_times_65 ⟨Nat.zero_le _, Nat.zero_le _⟩) hS (fun H locs hP hS => ?_)
            refine lv_aload hx hb dX11_times_68 (lv_at hl 0 rfl) ?_
            refine sm_get (ci := 5) (C := RX5) (T := TX5) (N := 4) (v := .int (M65_1802 (((a0 + 12) + 1 + 20 * (x1).toNatClampNeg) + 1) 0)) hx hb hts hin5 hown hE hP (t8_1 (te24 (t11_3 ha0) c42_1796)) rfl rfl 0 (by decide) (hts (.fieldLink RX11 279 "OrderMover$Polynomial" "howMany" "I") (by decide +kernel)) (fun _ h9 => h9) rfl dX11_times_70 ?_
            cases h
            exact sm_iret hx hb hr hlocks hP hS dX11_times_73
          · rw [if_pos c55_1800] at h
            refine lv_bipush (v := (-13 : Int32)) hx hb dX11_times_58 (by decide) ?_
            cases h
            exact sm_iret hx hb hr hlocks hP hS dX11_times_60
        · rw [if_neg c31_1795] at h
          refine lv_iload hx hb dX11_times_34 (lv_at hl 0 rfl) ?_
          cases h
          exact sm_iret hx hb hr hlocks hP hS dX11_times_36
      · rw [if_neg c12_1790] at h
        refine lv_iconst (v := (-1 : Int32)) hx hb dX11_times_15 (by decide) ?_
        cases h
        exact sm_iret hx hb hr hlocks hP hS dX11_times_16
set_option maxHeartbeats 4000000 in
set_option maxRecDepth 100000 in
theorem k_X11_weights (l : Launch) (D : va_G) (cA : Nat → ClassId) (adr : Nat → Nat) (hJ : smJ 1 adr) (a0 : Nat) (x1 : Int32) (x2 : Int32) (ha0 : smT 1 a0 11) (M : smM) (v1 : Int32) (M1 : smM) (h : m_X11_weights a0 x1 x2 M = some (v1, M1)) : Met l yX11_weights wsX11_weights ({ frames := 1, cells := 0, slots := 0, locals := 22 }) (smPc D cA 1 adr M [.ref (adr a0), .int x1, .int x2]) (smQi D cA 1 adr M1 v1) 0 0 (smA 1 adr) := by
  refine Met.ofW (cc := cX11_weights) (maxL := 4) (ret := (some .int)) (by decide) rfl ?_
  intro p e s m args below meth c s₁ B hml hv
  obtain ⟨rfl, hE, hP⟩ := hv
  have hx := B.exec
  have hb := B.bytes
  have hr := B.returns
  have hts := atoms_spec (ws := wsX11_weights) B.pre
  have hown : s.vm.findClass RX11 = some m.cls := findClass_of_methodNamed B.named
  have hlocks := B.notSynchronized
  have hS : va_S (smA 1 adr) s.heap s.heap [] := va_S.rf
  have hP : smP D cA 1 adr M s.heap := hP
  have hl := lv_entry ([.ref (adr a0), .int x1, .int x2]) (n := 4) (Nat.le_of_ble_eq_true rfl)
  rw [lg_entry_eq]
  generalize (lg_sl ([.ref (adr a0), .int x1, .int x2]) ++ List.replicate (4 - (lg_sl ([.ref (adr a0), .int x1, .int x2])).length) Slot.unset).toArray = ls at hl ⊢
  have hl : lv_has ls 4 [(0, .ref (adr a0)), (1, .int x1), (2, .int x2)] := hl
  unfold m_X11_weights at h
  have hin7 : ∀ w ∈ u_ws RX7 TX7 7, w ∈ wsX11_weights := by decide +kernel
  have hin11 : ∀ w ∈ u_ws RX11 TX11 11, w ∈ wsX11_weights := by decide +kernel
  refine lv_iload_n hx hb dX11_weights_0 rfl (lv_at hl 1 rfl) ?_
  refine lv_iconst (v := (1 : Int32)) hx hb dX11_weights_1 (by decide) ?_
  refine lv_bipush (v := (9 : Int32)) hx hb dX11_weights_2 (by decide) ?_
  obtain ⟨v4_1804, hc4_1806, h⟩ := sm_bd h
  refine sm_ci (va_runS (As := [.int x1, .int (1 : Int32), .int (9 : Int32)]) (rest := []) ⟨hx, hb, hml, hown, hts⟩ (k_X11_isWithin l D cA adr hJ x1 (1 : Int32) (9 : Int32)  M v4_1804 hc4_1806) (va_cwS 3 hts gX11_weights_X11_isWithin rfl rfl rfl (by decide +kernel) ⟨Nat.le_of_ble_eq_true rfl, Nat.le_of_ble_eq_true rfl⟩) ⟨smPc_bl, smPc_in [.int x1, .int (1 : Int32), .int (9 : Int32)] hE hP⟩ rfl rfl hl.1 rfl (lv_room (Nat.le_of_ble_eq_true rfl)) dX11_weights_4 ⟨Nat.zero_le _, Nat.zero_le _⟩) hS (fun H locs hP hS => ?_)
  refine lv_if_eq (tgt := 20) hx hb dX11_weights_7 (by decide) (fun c7_1807 => ?_) (fun c7_1807 => ?_)
  · rw [if_pos c7_1807] at h
    refine lv_iconst (v := (-1 : Int32)) hx hb dX11_weights_20 (by decide) ?_
    cases h
    exact sm_iret hx hb hr hlocks hP hS dX11_weights_21
  · rw [if_neg c7_1807] at h
    refine lv_iload_n hx hb dX11_weights_10 rfl (lv_at hl 2 rfl) ?_
    refine lv_iconst (v := (1 : Int32)) hx hb dX11_weights_11 (by decide) ?_
    refine lv_bipush (v := (9 : Int32)) hx hb dX11_weights_12 (by decide) ?_
    obtain ⟨v14_1808, hc14_1810, h⟩ := sm_bd h
    refine sm_ci (va_runS (As := [.int x2, .int (1 : Int32), .int (9 : Int32)]) (rest := []) ⟨hx, hb, hml, hown, hts⟩ (k_X11_isWithin l D cA adr hJ x2 (1 : Int32) (9 : Int32)  M v14_1808 hc14_1810) (va_cwS 3 hts gX11_weights_X11_isWithin rfl rfl rfl (by decide +kernel) ⟨Nat.le_of_ble_eq_true rfl, Nat.le_of_ble_eq_true rfl⟩) ⟨smPc_bl, smPc_in [.int x2, .int (1 : Int32), .int (9 : Int32)] hE hP⟩ rfl rfl hl.1 rfl (lv_room (Nat.le_of_ble_eq_true rfl)) dX11_weights_14 ⟨Nat.zero_le _, Nat.zero_le _⟩) hS (fun H locs hP hS => ?_)
    refine lv_if_ne (tgt := 22) hx hb dX11_weights_17 (by decide) (fun c17_1811 => ?_) (fun c17_1811 => ?_)
    · rw [if_neg c17_1811] at h
      refine lv_bipush (v := (10 : Int32)) hx hb dX11_weights_22 (by decide) ?_
      refine lv_aload_n hx hb dX11_weights_24 rfl (lv_at hl 0 rfl) ?_
      refine sm_get (ci := 11) (C := RX11) (T := TX11) (N := 11) (v := .ref (adr (a0 + 1))) hx hb hts hin11 hown hE hP ha0 rfl rfl 0 (by decide) (hts (.fieldLink RX11 12 "OrderMover" "setting" "LOrderMover$Setting;") (by decide +kernel)) (fun _ h9 => h9) rfl dX11_weights_25 ?_
      refine sm_get (ci := 7) (C := RX7) (T := TX7) (N := 7) (v := .int (M (a0 + 1) 3)) hx hb hts hin7 hown hE hP (t11_0 ha0) rfl rfl 3 (by decide) (hts (.fieldLink RX11 114 "OrderMover$Setting" "u" "I") (by decide +kernel)) (fun _ h9 => h9) rfl dX11_weights_28 ?_
      refine lv_imul hx hb dX11_weights_31 ?_
      refine lv_aload_n hx hb dX11_weights_32 rfl (lv_at hl 0 rfl) ?_
      refine sm_get (ci := 11) (C := RX11) (T := TX11) (N := 11) (v := .ref (adr (a0 + 1))) hx hb hts hin11 hown hE hP ha0 rfl rfl 0 (by decide) (hts (.fieldLink RX11 12 "OrderMover" "setting" "LOrderMover$Setting;") (by decide +kernel)) (fun _ h9 => h9) rfl dX11_weights_33 ?_
      refine sm_get (ci := 7) (C := RX7) (T := TX7) (N := 7) (v := .int (M (a0 + 1) 4)) hx hb hts hin7 hown hE hP (t11_0 ha0) rfl rfl 4 (by decide) (hts (.fieldLink RX11 117 "OrderMover$Setting" "v" "I") (by decide +kernel)) (fun _ h9 => h9) rfl dX11_weights_36 ?_
      refine lv_iadd hx hb dX11_weights_39 ?_
      refine lv_istore_n (lv' := [(3, .int (((10 : Int32) * (M (a0 + 1) 3)) + (M (a0 + 1) 4))), (0, .ref (adr a0)), (1, .int x1), (2, .int x2)]) hx hb dX11_weights_40 rfl hl (by decide) rfl (fun ls hl => ?_)
      refine lv_aload_n hx hb dX11_weights_41 rfl (lv_at hl 1 rfl) ?_
      refine sm_get (ci := 11) (C := RX11) (T := TX11) (N := 11) (v := .ref (adr (a0 + 1))) hx hb hts hin11 hown hE hP ha0 rfl rfl 0 (by decide) (hts (.fieldLink RX11 12 "OrderMover" "setting" "LOrderMover$Setting;") (by decide +kernel)) (fun _ h9 => h9) rfl dX11_weights_42 ?_
      refine lv_iload_n hx hb dX11_weights_45 rfl (lv_at hl 2 rfl) ?_
      refine sm_put (ci := 7) (C := RX7) (T := TX7) (N := 7) (ty := .int) hx hb hts hin7 tyX7 tyX7_ok nmX7 hown hE hJ hP hS (t11_0 ha0) rfl rfl 3 (by decide) (hts (.fieldLink RX11 114 "OrderMover$Setting" "u" "I") (by decide +kernel)) (fun _ h9 => h9) rfl (by decide +kernel) rfl rfl (Nat.le_of_ble_eq_true rfl) rfl dX11_weights_46 (fun H locs hP hS => ?_)
      obtain ⟨M46_1812, hM, h⟩ := sm_lt h
      rw [← hM] at hP; clear hM
      refine lv_aload_n hx hb dX11_weights_49 rfl (lv_at hl 1 rfl) ?_
      refine sm_get (ci := 11) (C := RX11) (T := TX11) (N := 11) (v := .ref (adr (a0 + 1))) hx hb hts hin11 hown hE hP ha0 rfl rfl 0 (by decide) (hts (.fieldLink RX11 12 "OrderMover" "setting" "LOrderMover$Setting;") (by decide +kernel)) (fun _ h9 => h9) rfl dX11_weights_50 ?_
      refine lv_iload_n hx hb dX11_weights_53 rfl (lv_at hl 3 rfl) ?_
      refine sm_put (ci := 7) (C := RX7) (T := TX7) (N := 7) (ty := .int) hx hb hts hin7 tyX7 tyX7_ok nmX7 hown hE hJ hP hS (t11_0 ha0) rfl rfl 4 (by decide) (hts (.fieldLink RX11 117 "OrderMover$Setting" "v" "I") (by decide +kernel)) (fun _ h9 => h9) rfl (by decide +kernel) rfl rfl (Nat.le_of_ble_eq_true rfl) rfl dX11_weights_54 (fun H locs hP hS => ?_)
      obtain ⟨M54_1813, hM, h⟩ := sm_lt h
      rw [← hM] at hP; clear hM
      refine lv_aload_n hx hb dX11_weights_57 rfl (lv_at hl 1 rfl) ?_
      refine sm_get (ci := 11) (C := RX11) (T := TX11) (N := 11) (v := .ref (adr (a0 + 93))) hx hb hts hin11 hown hE hP ha0 rfl rfl 4 (by decide) (hts (.fieldLink RX11 33 "OrderMover" "ideal" "LOrderMover$Ideal;") (by decide +kernel)) (fun _ h9 => h9) rfl dX11_weights_58 ?_
      obtain ⟨M61_1815, hc61_1816, h⟩ := sm_bd h
      refine sm_cv (va_runV (As := []) (rest := []) ⟨hx, hb, hml, hown, hts⟩ (k_X2_forget l D cA adr hJ (a0 + 93) (t11_4 ha0) M54_1813 M61_1815 hc61_1816) (cwV 0 hts gX11_weights_X2_forget rfl rfl rfl (by decide +kernel) ⟨Nat.le_of_ble_eq_true rfl, Nat.le_of_ble_eq_true rfl⟩) ⟨smPc_bl, smRv hE hP (t11_4 ha0) rfl (ci := 2) (q := (RX2, TX2, 9)) rfl, smPc_in [.ref (adr (a0 + 93))] hE hP⟩ rfl rfl hl.1 rfl (lv_room (Nat.le_of_ble_eq_true rfl)) dX11_weights_61 ⟨Nat.zero_le _, Nat.zero_le _⟩) hS (fun H locs hP hS => ?_)
      refine lv_iload_n hx hb dX11_weights_64 rfl (lv_at hl 0 rfl) ?_
      cases h
      exact sm_iret hx hb hr hlocks hP hS dX11_weights_65
    · rw [if_pos c17_1811] at h
      refine lv_iconst (v := (-1 : Int32)) hx hb dX11_weights_20 (by decide) ?_
      cases h
      exact sm_iret hx hb hr hlocks hP hS dX11_weights_21
