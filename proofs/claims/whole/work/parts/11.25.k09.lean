set_option maxHeartbeats 4000000 in
set_option maxRecDepth 100000 in
theorem k_X11_isSlot (l : Launch) (D : va_G) (cA : Nat → ClassId) (adr : Nat → Nat) (hJ : smJ 1 adr) (x0 : Int32) (M : smM) (v1 : Int32) (h : m_X11_isSlot x0 M = some v1) : Met l yX11_isSlot wsX11_isSlot ({ frames := 1, cells := 0, slots := 0, locals := 22 }) (smPc D cA 1 adr M [.int x0]) (smQi D cA 1 adr M v1) 0 0 (smA 1 adr) := by
  refine Met.ofW (cc := cX11_isSlot) (maxL := 1) (ret := (some .boolean)) (by decide) rfl ?_
  intro p e s m args below meth c s₁ B hml hv
  obtain ⟨rfl, hE, hP⟩ := hv
  have hx := B.exec
  have hb := B.bytes
  have hr := B.returns
  have hts := atoms_spec (ws := wsX11_isSlot) B.pre
  have hown : s.vm.findClass RX11 = some m.cls := findClass_of_methodNamed B.named
  have hlocks := B.notSynchronized
  have hS : va_S (smA 1 adr) s.heap s.heap [] := va_S.rf
  have hP : smP D cA 1 adr M s.heap := hP
  have hl := lv_entry ([.int x0]) (n := 1) (Nat.le_of_ble_eq_true rfl)
  rw [lg_entry_eq]
  generalize (lg_sl ([.int x0]) ++ List.replicate (1 - (lg_sl ([.int x0])).length) Slot.unset).toArray = ls at hl ⊢
  have hl : lv_has ls 1 [(0, .int x0)] := hl
  unfold m_X11_isSlot at h
  refine lv_iload_n hx hb dX11_isSlot_0 rfl (lv_at hl 0 rfl) ?_
  refine lv_iconst (v := (0 : Int32)) hx hb dX11_isSlot_1 (by decide) ?_
  refine lv_iconst (v := (3 : Int32)) hx hb dX11_isSlot_2 (by decide) ?_
  obtain ⟨v3_1120, hc3_1122, h⟩ := sm_bd h
  refine sm_ci (va_runS (As := [.int x0, .int (0 : Int32), .int (3 : Int32)]) (rest := []) ⟨hx, hb, hml, hown, hts⟩ (k_X11_isWithin l D cA adr hJ x0 (0 : Int32) (3 : Int32)  M v3_1120 hc3_1122) (va_cwS 3 hts gX11_isSlot_X11_isWithin rfl rfl rfl (by decide +kernel) ⟨Nat.le_of_ble_eq_true rfl, Nat.le_of_ble_eq_true rfl⟩) ⟨smPc_bl, smPc_in [.int x0, .int (0 : Int32), .int (3 : Int32)] hE hP⟩ rfl rfl hl.1 rfl (lv_room (Nat.le_of_ble_eq_true rfl)) dX11_isSlot_3 ⟨Nat.zero_le _, Nat.zero_le _⟩) hS (fun H locs hP hS => ?_)
  cases h
  exact sm_zret (by first | rfl | decide) hx hb hr hlocks hP hS dX11_isSlot_6
set_option maxHeartbeats 4000000 in
set_option maxRecDepth 100000 in
theorem k_X11_isNumber (l : Launch) (D : va_G) (cA : Nat → ClassId) (adr : Nat → Nat) (hJ : smJ 1 adr) (a0 : Nat) (x1 : Int32) (ha0 : smT 1 a0 11) (M : smM) (v1 : Int32) (h : m_X11_isNumber a0 x1 M = some v1) : Met l yX11_isNumber wsX11_isNumber ({ frames := 1, cells := 0, slots := 0, locals := 22 }) (smPc D cA 1 adr M [.ref (adr a0), .int x1]) (smQi D cA 1 adr M v1) 0 0 (smA 1 adr) := by
  refine Met.ofW (cc := cX11_isNumber) (maxL := 2) (ret := (some .boolean)) (by decide) rfl ?_
  intro p e s m args below meth c s₁ B hml hv
  obtain ⟨rfl, hE, hP⟩ := hv
  have hx := B.exec
  have hb := B.bytes
  have hr := B.returns
  have hts := atoms_spec (ws := wsX11_isNumber) B.pre
  have hown : s.vm.findClass RX11 = some m.cls := findClass_of_methodNamed B.named
  have hlocks := B.notSynchronized
  have hS : va_S (smA 1 adr) s.heap s.heap [] := va_S.rf
  have hP : smP D cA 1 adr M s.heap := hP
  have hl := lv_entry ([.ref (adr a0), .int x1]) (n := 2) (Nat.le_of_ble_eq_true rfl)
  rw [lg_entry_eq]
  generalize (lg_sl ([.ref (adr a0), .int x1]) ++ List.replicate (2 - (lg_sl ([.ref (adr a0), .int x1])).length) Slot.unset).toArray = ls at hl ⊢
  have hl : lv_has ls 2 [(0, .ref (adr a0)), (1, .int x1)] := hl
  unfold m_X11_isNumber at h
  have hin7 : ∀ w ∈ u_ws RX7 TX7 7, w ∈ wsX11_isNumber := by decide +kernel
  have hin11 : ∀ w ∈ u_ws RX11 TX11 11, w ∈ wsX11_isNumber := by decide +kernel
  refine lv_iload_n hx hb dX11_isNumber_0 rfl (lv_at hl 1 rfl) ?_
  refine lv_iconst (v := (0 : Int32)) hx hb dX11_isNumber_1 (by decide) ?_
  refine lv_aload_n hx hb dX11_isNumber_2 rfl (lv_at hl 0 rfl) ?_
  refine sm_get (ci := 11) (C := RX11) (T := TX11) (N := 11) (v := .ref (adr (a0 + 1))) hx hb hts hin11 hown hE hP ha0 rfl rfl 0 (by decide) (hts (.fieldLink RX11 12 "OrderMover" "setting" "LOrderMover$Setting;") (by decide +kernel)) (fun _ h9 => h9) rfl dX11_isNumber_3 ?_
  refine sm_get (ci := 7) (C := RX7) (T := TX7) (N := 7) (v := .int (M (a0 + 1) 0)) hx hb hts hin7 hown hE hP (t11_0 ha0) rfl rfl 0 (by decide) (hts (.fieldLink RX11 75 "OrderMover$Setting" "p" "I") (by decide +kernel)) (fun _ h9 => h9) rfl dX11_isNumber_6 ?_
  refine lv_iconst (v := (1 : Int32)) hx hb dX11_isNumber_9 (by decide) ?_
  refine lv_isub hx hb dX11_isNumber_10 ?_
  obtain ⟨v11_1123, hc11_1125, h⟩ := sm_bd h
  refine sm_ci (va_runS (As := [.int x1, .int (0 : Int32), .int ((M (a0 + 1) 0) - (1 : Int32))]) (rest := []) ⟨hx, hb, hml, hown, hts⟩ (k_X11_isWithin l D cA adr hJ x1 (0 : Int32) ((M (a0 + 1) 0) - (1 : Int32))  M v11_1123 hc11_1125) (va_cwS 3 hts gX11_isNumber_X11_isWithin rfl rfl rfl (by decide +kernel) ⟨Nat.le_of_ble_eq_true rfl, Nat.le_of_ble_eq_true rfl⟩) ⟨smPc_bl, smPc_in [.int x1, .int (0 : Int32), .int ((M (a0 + 1) 0) - (1 : Int32))] hE hP⟩ rfl rfl hl.1 rfl (lv_room (Nat.le_of_ble_eq_true rfl)) dX11_isNumber_11 ⟨Nat.zero_le _, Nat.zero_le _⟩) hS (fun H locs hP hS => ?_)
  cases h
  exact sm_zret (by first | rfl | decide) hx hb hr hlocks hP hS dX11_isNumber_14
set_option maxHeartbeats 4000000 in
set_option maxRecDepth 100000 in
theorem k_X11_settle (l : Launch) (D : va_G) (cA : Nat → ClassId) (adr : Nat → Nat) (hJ : smJ 1 adr) (a0 : Nat) (x1 : Int32) (ha0 : smT 1 a0 11) (M : smM) (v1 : Int32) (M1 : smM) (h : m_X11_settle a0 x1 M = some (v1, M1)) : Met l yX11_settle wsX11_settle ({ frames := 2, cells := 0, slots := 0, locals := 49 }) (smPc D cA 1 adr M [.ref (adr a0), .int x1]) (smQi D cA 1 adr M1 v1) 0 0 (smA 1 adr) := by
  refine Met.ofW (cc := cX11_settle) (maxL := 2) (ret := (some .int)) (by decide) rfl ?_
  intro p e s m args below meth c s₁ B hml hv
  obtain ⟨rfl, hE, hP⟩ := hv
  have hx := B.exec
  have hb := B.bytes
  have hr := B.returns
  have hts := atoms_spec (ws := wsX11_settle) B.pre
  have hown : s.vm.findClass RX11 = some m.cls := findClass_of_methodNamed B.named
  have hlocks := B.notSynchronized
  have hS : va_S (smA 1 adr) s.heap s.heap [] := va_S.rf
  have hP : smP D cA 1 adr M s.heap := hP
  have hl := lv_entry ([.ref (adr a0), .int x1]) (n := 2) (Nat.le_of_ble_eq_true rfl)
  rw [lg_entry_eq]
  generalize (lg_sl ([.ref (adr a0), .int x1]) ++ List.replicate (2 - (lg_sl ([.ref (adr a0), .int x1])).length) Slot.unset).toArray = ls at hl ⊢
  have hl : lv_has ls 2 [(0, .ref (adr a0)), (1, .int x1)] := hl
  unfold m_X11_settle at h
  have hin5 : ∀ w ∈ u_ws RX5 TX5 4, w ∈ wsX11_settle := by decide +kernel
  have hin8 : ∀ w ∈ u_ws RX8 TX8 4, w ∈ wsX11_settle := by decide +kernel
  have hin11 : ∀ w ∈ u_ws RX11 TX11 11, w ∈ wsX11_settle := by decide +kernel
  refine lv_aload_n hx hb dX11_settle_0 rfl (lv_at hl 0 rfl) ?_
  refine sm_get (ci := 11) (C := RX11) (T := TX11) (N := 11) (v := .ref (adr (a0 + 500))) hx hb hts hin11 hown hE hP ha0 rfl rfl 7 (by decide) (hts (.fieldLink RX11 56 "OrderMover" "scratch" "LOrderMover$Polynomial;") (by decide +kernel)) (fun _ h9 => h9) rfl dX11_settle_1 ?_
  refine sm_get (ci := 5) (C := RX5) (T := TX5) (N := 4) (v := .int (M (a0 + 500) 0)) hx hb hts hin5 hown hE hP (t11_7 ha0) rfl rfl 0 (by decide) (hts (.fieldLink RX11 279 "OrderMover$Polynomial" "howMany" "I") (by decide +kernel)) (fun _ h9 => h9) rfl dX11_settle_4 ?_
  refine lv_bipush (v := (8 : Int32)) hx hb dX11_settle_7 (by decide) ?_
  refine lv_icmp_le (tgt := 15) hx hb dX11_settle_9 (by decide) (fun c9_1126 => ?_) (fun c9_1126 => ?_)
  · rw [if_pos c9_1126] at h
    refine lv_aload_n hx hb dX11_settle_15 rfl (lv_at hl 0 rfl) ?_
    refine sm_get (ci := 11) (C := RX11) (T := TX11) (N := 11) (v := .ref (adr (a0 + 12))) hx hb hts hin11 hown hE hP ha0 rfl rfl 3 (by decide) (hts (.fieldLink RX11 26 "OrderMover" "slots" "[LOrderMover$Slot;") (by decide +kernel)) (fun _ h9 => h9) rfl dX11_settle_16 ?_
    refine lv_iload_n hx hb dX11_settle_19 rfl (lv_at hl 1 rfl) ?_
    obtain ⟨c20_1127, h⟩ := sm_ck h
    refine sm_aald24 hx hb hE hP (t11_3 ha0) c20_1127 dX11_settle_20 ?_
    refine sm_get (ci := 8) (C := RX8) (T := TX8) (N := 4) (v := .ref (adr (((a0 + 12) + 1 + 20 * (x1).toNatClampNeg) + 1))) hx hb hts hin8 hown hE hP (te24 (t11_3 ha0) c20_1127) rfl rfl 1 (by decide) (hts (.fieldLink RX11 255 "OrderMover$Slot" "polynomial" "LOrderMover$Polynomial;") (by decide +kernel)) (fun _ h9 => h9) rfl dX11_settle_21 ?_
    refine lv_aload_n hx hb dX11_settle_24 rfl (lv_at hl 0 rfl) ?_
    refine sm_get (ci := 11) (C := RX11) (T := TX11) (N := 11) (v := .ref (adr (a0 + 500))) hx hb hts hin11 hown hE hP ha0 rfl rfl 7 (by decide) (hts (.fieldLink RX11 56 "OrderMover" "scratch" "LOrderMover$Polynomial;") (by decide +kernel)) (fun _ h9 => h9) rfl dX11_settle_25 ?_
    obtain ⟨M28_1129, hc28_1130, h⟩ := sm_bd h
    refine sm_cv (va_runV (As := [.ref (adr (a0 + 500))]) (rest := []) ⟨hx, hb, hml, hown, hts⟩ (k_X5_copyFrom l D cA adr hJ (((a0 + 12) + 1 + 20 * (x1).toNatClampNeg) + 1) (a0 + 500) (t8_1 (te24 (t11_3 ha0) c20_1127)) (t11_7 ha0) M M28_1129 hc28_1130) (cwV 1 hts gX11_settle_X5_copyFrom rfl rfl rfl (by decide +kernel) ⟨Nat.le_of_ble_eq_true rfl, Nat.le_of_ble_eq_true rfl⟩) ⟨smPc_bl, smRv hE hP (t8_1 (te24 (t11_3 ha0) c20_1127)) rfl (ci := 5) (q := (RX5, TX5, 4)) rfl, smPc_in [.ref (adr (((a0 + 12) + 1 + 20 * (x1).toNatClampNeg) + 1)), .ref (adr (a0 + 500))] hE hP⟩ rfl rfl hl.1 rfl (lv_room (Nat.le_of_ble_eq_true rfl)) dX11_settle_28 ⟨Nat.zero_le _, Nat.zero_le _⟩) hS (fun H locs hP hS => ?_)
    refine lv_aload_n hx hb dX11_settle_31 rfl (lv_at hl 0 rfl) ?_
    refine sm_get (ci := 11) (C := RX11) (T := TX11) (N := 11) (v := .ref (adr (a0 + 500))) hx hb hts hin11 hown hE hP ha0 rfl rfl 7 (by decide) (hts (.fieldLink RX11 56 "OrderMover" "scratch" "LOrderMover$Polynomial;") (by decide +kernel)) (fun _ h9 => h9) rfl dX11_settle_32 ?_
    refine sm_get (ci := 5) (C := RX5) (T := TX5) (N := 4) (v := .int (M28_1129 (a0 + 500) 0)) hx hb hts hin5 hown hE hP (t11_7 ha0) rfl rfl 0 (by decide) (hts (.fieldLink RX11 279 "OrderMover$Polynomial" "howMany" "I") (by decide +kernel)) (fun _ h9 => h9) rfl dX11_settle_35 ?_
    cases h
    exact sm_iret hx hb hr hlocks hP hS dX11_settle_38
  · rw [if_neg c9_1126] at h
    refine lv_bipush (v := (-3 : Int32)) hx hb dX11_settle_12 (by decide) ?_
    cases h
    exact sm_iret hx hb hr hlocks hP hS dX11_settle_14
set_option maxHeartbeats 4000000 in
set_option maxRecDepth 100000 in
theorem k_X11_add (l : Launch) (D : va_G) (cA : Nat → ClassId) (adr : Nat → Nat) (hJ : smJ 1 adr) (a0 : Nat) (x1 : Int32) (x2 : Int32) (x3 : Int32) (x4 : Int32) (ha0 : smT 1 a0 11) (M : smM) (v1 : Int32) (M1 : smM) (h : m_X11_add a0 x1 x2 x3 x4 M = some (v1, M1)) : Met l yX11_add wsX11_add ({ frames := 3, cells := 0, slots := 0, locals := 70 }) (smPc D cA 1 adr M [.ref (adr a0), .int x1, .int x2, .int x3, .int x4]) (smQi D cA 1 adr M1 v1) 0 0 (smA 1 adr) := by
  refine Met.ofW (cc := cX11_add) (maxL := 6) (ret := (some .int)) (by decide) rfl ?_
  intro p e s m args below meth c s₁ B hml hv
  obtain ⟨rfl, hE, hP⟩ := hv
  have hx := B.exec
  have hb := B.bytes
  have hr := B.returns
  have hts := atoms_spec (ws := wsX11_add) B.pre
  have hown : s.vm.findClass RX11 = some m.cls := findClass_of_methodNamed B.named
  have hlocks := B.notSynchronized
  have hS : va_S (smA 1 adr) s.heap s.heap [] := va_S.rf
  have hP : smP D cA 1 adr M s.heap := hP
  have hl := lv_entry ([.ref (adr a0), .int x1, .int x2, .int x3, .int x4]) (n := 6) (Nat.le_of_ble_eq_true rfl)
  rw [lg_entry_eq]
  generalize (lg_sl ([.ref (adr a0), .int x1, .int x2, .int x3, .int x4]) ++ List.replicate (6 - (lg_sl ([.ref (adr a0), .int x1, .int x2, .int x3, .int x4])).length) Slot.unset).toArray = ls at hl ⊢
  have hl : lv_has ls 6 [(0, .ref (adr a0)), (1, .int x1), (2, .int x2), (3, .int x3), (4, .int x4)] := hl
  unfold m_X11_add at h
  have hin7 : ∀ w ∈ u_ws RX7 TX7 7, w ∈ wsX11_add := by decide +kernel
  have hin8 : ∀ w ∈ u_ws RX8 TX8 4, w ∈ wsX11_add := by decide +kernel
  have hin11 : ∀ w ∈ u_ws RX11 TX11 11, w ∈ wsX11_add := by decide +kernel
  refine lv_iload_n hx hb dX11_add_0 rfl (lv_at hl 1 rfl) ?_
  obtain ⟨v1_1131, hc1_1133, h⟩ := sm_bd h
  refine sm_ci (va_runS (As := [.int x1]) (rest := []) ⟨hx, hb, hml, hown, hts⟩ (k_X11_isSlot l D cA adr hJ x1  M v1_1131 hc1_1133) (va_cwS 1 hts gX11_add_X11_isSlot rfl rfl rfl (by decide +kernel) ⟨Nat.le_of_ble_eq_true rfl, Nat.le_of_ble_eq_true rfl⟩) ⟨smPc_bl, smPc_in [.int x1] hE hP⟩ rfl rfl hl.1 rfl (lv_room (Nat.le_of_ble_eq_true rfl)) dX11_add_1 ⟨Nat.zero_le _, Nat.zero_le _⟩) hS (fun H locs hP hS => ?_)
  refine lv_if_eq (tgt := 24) hx hb dX11_add_4 (by decide) (fun c4_1134 => ?_) (fun c4_1134 => ?_)
  · rw [if_pos c4_1134] at h
    refine lv_iconst (v := (-1 : Int32)) hx hb dX11_add_24 (by decide) ?_
    cases h
    exact sm_iret hx hb hr hlocks hP hS dX11_add_25
  · rw [if_neg c4_1134] at h
    refine lv_aload_n hx hb dX11_add_7 rfl (lv_at hl 0 rfl) ?_
    refine lv_iload_n hx hb dX11_add_8 rfl (lv_at hl 2 rfl) ?_
    obtain ⟨v9_1135, hc9_1137, h⟩ := sm_bd h
    refine sm_ci (va_runV (As := [.int x2]) (rest := []) ⟨hx, hb, hml, hown, hts⟩ (k_X11_isNumber l D cA adr hJ a0 x2 ha0 M v9_1135 hc9_1137) (cwV 1 hts gX11_add_X11_isNumber rfl rfl rfl (by decide +kernel) ⟨Nat.le_of_ble_eq_true rfl, Nat.le_of_ble_eq_true rfl⟩) ⟨smPc_bl, smRv hE hP ha0 rfl (ci := 11) (q := (RX11, TX11, 11)) rfl, smPc_in [.ref (adr a0), .int x2] hE hP⟩ rfl rfl hl.1 rfl (lv_room (Nat.le_of_ble_eq_true rfl)) dX11_add_9 ⟨Nat.zero_le _, Nat.zero_le _⟩) hS (fun H locs hP hS => ?_)
    refine lv_if_eq (tgt := 24) hx hb dX11_add_12 (by decide) (fun c12_1138 => ?_) (fun c12_1138 => ?_)
    · rw [if_pos c12_1138] at h
      refine lv_iconst (v := (-1 : Int32)) hx hb dX11_add_24 (by decide) ?_
      cases h
      exact sm_iret hx hb hr hlocks hP hS dX11_add_25
    · rw [if_neg c12_1138] at h
      refine lv_iload_n hx hb dX11_add_15 rfl (lv_at hl 3 rfl) ?_
      refine lv_if_lt (tgt := 24) hx hb dX11_add_16 (by decide) (fun c16_1139 => ?_) (fun c16_1139 => ?_)
      · rw [if_pos c16_1139] at h
        refine lv_iconst (v := (-1 : Int32)) hx hb dX11_add_24 (by decide) ?_
        cases h
        exact sm_iret hx hb hr hlocks hP hS dX11_add_25
      · rw [if_neg c16_1139] at h
        refine lv_iload hx hb dX11_add_19 (lv_at hl 4 rfl) ?_
        refine lv_if_ge (tgt := 26) hx hb dX11_add_21 (by decide) (fun c21_1140 => ?_) (fun c21_1140 => ?_)
        · rw [if_pos c21_1140] at h
          refine lv_aload_n hx hb dX11_add_26 rfl (lv_at hl 0 rfl) ?_
          refine sm_get (ci := 11) (C := RX11) (T := TX11) (N := 11) (v := .ref (adr (a0 + 12))) hx hb hts hin11 hown hE hP ha0 rfl rfl 3 (by decide) (hts (.fieldLink RX11 26 "OrderMover" "slots" "[LOrderMover$Slot;") (by decide +kernel)) (fun _ h9 => h9) rfl dX11_add_27 ?_
          refine lv_iload_n hx hb dX11_add_30 rfl (lv_at hl 1 rfl) ?_
          obtain ⟨c31_1141, h⟩ := sm_ck h
          refine sm_aald24 hx hb hE hP (t11_3 ha0) c31_1141 dX11_add_31 ?_
          refine lv_iconst (v := (1 : Int32)) hx hb dX11_add_32 (by decide) ?_
          obtain ⟨v33_1142, hc33_1144, h⟩ := sm_bd h
          refine sm_ci (va_runV (As := [.int (1 : Int32)]) (rest := []) ⟨hx, hb, hml, hown, hts⟩ (k_X8_findWanting l D cA adr hJ ((a0 + 12) + 1 + 20 * (x1).toNatClampNeg) (1 : Int32) (te24 (t11_3 ha0) c31_1141) M v33_1142 hc33_1144) (cwV 1 hts gX11_add_X8_findWanting rfl rfl rfl (by decide +kernel) ⟨Nat.le_of_ble_eq_true rfl, Nat.le_of_ble_eq_true rfl⟩) ⟨smPc_bl, smRv hE hP (te24 (t11_3 ha0) c31_1141) rfl (ci := 8) (q := (RX8, TX8, 4)) rfl, smPc_in [.ref (adr ((a0 + 12) + 1 + 20 * (x1).toNatClampNeg)), .int (1 : Int32)] hE hP⟩ rfl rfl hl.1 rfl (lv_room (Nat.le_of_ble_eq_true rfl)) dX11_add_33 ⟨Nat.zero_le _, Nat.zero_le _⟩) hS (fun H locs hP hS => ?_)
          refine lv_istore (lv' := [(5, .int v33_1142), (0, .ref (adr a0)), (1, .int x1), (2, .int x2), (3, .int x3), (4, .int x4)]) hx hb dX11_add_36 hl (by decide) rfl (fun ls hl => ?_)
          refine lv_iload hx hb dX11_add_38 (lv_at hl 0 rfl) ?_
          refine lv_if_eq (tgt := 46) hx hb dX11_add_40 (by decide) (fun c40_1145 => ?_) (fun c40_1145 => ?_)
          · rw [if_pos c40_1145] at h
            refine lv_aload_n hx hb dX11_add_46 rfl (lv_at hl 1 rfl) ?_
            refine sm_get (ci := 11) (C := RX11) (T := TX11) (N := 11) (v := .ref (adr (a0 + 500))) hx hb hts hin11 hown hE hP ha0 rfl rfl 7 (by decide) (hts (.fieldLink RX11 56 "OrderMover" "scratch" "LOrderMover$Polynomial;") (by decide +kernel)) (fun _ h9 => h9) rfl dX11_add_47 ?_
            refine lv_aload_n hx hb dX11_add_50 rfl (lv_at hl 1 rfl) ?_
            refine sm_get (ci := 11) (C := RX11) (T := TX11) (N := 11) (v := .ref (adr (a0 + 12))) hx hb hts hin11 hown hE hP ha0 rfl rfl 3 (by decide) (hts (.fieldLink RX11 26 "OrderMover" "slots" "[LOrderMover$Slot;") (by decide +kernel)) (fun _ h9 => h9) rfl dX11_add_51 ?_
            refine lv_iload_n hx hb dX11_add_54 rfl (lv_at hl 2 rfl) ?_
            obtain ⟨c55_1146, h⟩ := sm_ck h
            refine sm_aald24 hx hb hE hP (t11_3 ha0) c55_1146 dX11_add_55 ?_
            refine sm_get (ci := 8) (C := RX8) (T := TX8) (N := 4) (v := .ref (adr (((a0 + 12) + 1 + 20 * (x1).toNatClampNeg) + 1))) hx hb hts hin8 hown hE hP (te24 (t11_3 ha0) c55_1146) rfl rfl 1 (by decide) (hts (.fieldLink RX11 255 "OrderMover$Slot" "polynomial" "LOrderMover$Polynomial;") (by decide +kernel)) (fun _ h9 => h9) rfl dX11_add_56 ?_
            obtain ⟨M59_1148, hc59_1149, h⟩ := sm_bd h
            refine sm_cv (va_runV (As := [.ref (adr (((a0 + 12) + 1 + 20 * (x1).toNatClampNeg) + 1))]) (rest := []) ⟨hx, hb, hml, hown, hts⟩ (k_X5_copyFrom l D cA adr hJ (a0 + 500) (((a0 + 12) + 1 + 20 * (x1).toNatClampNeg) + 1) (t11_7 ha0) (t8_1 (te24 (t11_3 ha0) c55_1146)) M M59_1148 hc59_1149) (cwV 1 hts gX11_add_X5_copyFrom rfl rfl rfl (by decide +kernel) ⟨Nat.le_of_ble_eq_true rfl, Nat.le_of_ble_eq_true rfl⟩) ⟨smPc_bl, smRv hE hP (t11_7 ha0) rfl (ci := 5) (q := (RX5, TX5, 4)) rfl, smPc_in [.ref (adr (a0 + 500)), .ref (adr (((a0 + 12) + 1 + 20 * (x1).toNatClampNeg) + 1))] hE hP⟩ rfl rfl hl.1 rfl (lv_room (Nat.le_of_ble_eq_true rfl)) dX11_add_59 ⟨Nat.zero_le _, Nat.zero_le _⟩) hS (fun H locs hP hS => ?_)
            refine lv_aload_n hx hb dX11_add_62 rfl (lv_at hl 1 rfl) ?_
            refine sm_get (ci := 11) (C := RX11) (T := TX11) (N := 11) (v := .ref (adr (a0 + 500))) hx hb hts hin11 hown hE hP ha0 rfl rfl 7 (by decide) (hts (.fieldLink RX11 56 "OrderMover" "scratch" "LOrderMover$Polynomial;") (by decide +kernel)) (fun _ h9 => h9) rfl dX11_add_63 ?_
            refine lv_iload_n hx hb dX11_add_66 rfl (lv_at hl 3 rfl) ?_
            refine lv_iload_n hx hb dX11_add_67 rfl (lv_at hl 4 rfl) ?_
            refine lv_iload hx hb dX11_add_68 (lv_at hl 5 rfl) ?_
            refine lv_aload_n hx hb dX11_add_70 rfl (lv_at hl 1 rfl) ?_
            refine sm_get (ci := 11) (C := RX11) (T := TX11) (N := 11) (v := .ref (adr (a0 + 1))) hx hb hts hin11 hown hE hP ha0 rfl rfl 0 (by decide) (hts (.fieldLink RX11 12 "OrderMover" "setting" "LOrderMover$Setting;") (by decide +kernel)) (fun _ h9 => h9) rfl dX11_add_71 ?_
            refine sm_get (ci := 7) (C := RX7) (T := TX7) (N := 7) (v := .int (M59_1148 (a0 + 1) 0)) hx hb hts hin7 hown hE hP (t11_0 ha0) rfl rfl 0 (by decide) (hts (.fieldLink RX11 75 "OrderMover$Setting" "p" "I") (by decide +kernel)) (fun _ h9 => h9) rfl dX11_add_74 ?_
            obtain ⟨M77_1151, hc77_1152, h⟩ := sm_bd h
            refine sm_cv (va_runV (As := [.int x2, .int x3, .int x4, .int (M59_1148 (a0 + 1) 0)]) (rest := []) ⟨hx, hb, hml, hown, hts⟩ (k_X5_bring l D cA adr hJ (a0 + 500) x2 x3 x4 (M59_1148 (a0 + 1) 0) (t11_7 ha0) M59_1148 M77_1151 hc77_1152) (cwV 4 hts gX11_add_X5_bring rfl rfl rfl (by decide +kernel) ⟨Nat.le_of_ble_eq_true rfl, Nat.le_of_ble_eq_true rfl⟩) ⟨smPc_bl, smRv hE hP (t11_7 ha0) rfl (ci := 5) (q := (RX5, TX5, 4)) rfl, smPc_in [.ref (adr (a0 + 500)), .int x2, .int x3, .int x4, .int (M59_1148 (a0 + 1) 0)] hE hP⟩ rfl rfl hl.1 rfl (lv_room (Nat.le_of_ble_eq_true rfl)) dX11_add_77 ⟨Nat.zero_le _, Nat.zero_le _⟩) hS (fun H locs hP hS => ?_)
            refine lv_aload_n hx hb dX11_add_80 rfl (lv_at hl 1 rfl) ?_
            refine lv_iload_n hx hb dX11_add_81 rfl (lv_at hl 2 rfl) ?_
            obtain ⟨v82_1153, M82_1154, hc82_1155, h⟩ := sm_bd2 h
            refine sm_ci (va_runV (As := [.int x1]) (rest := []) ⟨hx, hb, hml, hown, hts⟩ (k_X11_settle l D cA adr hJ a0 x1 ha0 M77_1151 v82_1153 M82_1154 hc82_1155) (cwV 1 hts gX11_add_X11_settle rfl rfl rfl (by decide +kernel) ⟨Nat.le_of_ble_eq_true rfl, Nat.le_of_ble_eq_true rfl⟩) ⟨smPc_bl, smRv hE hP ha0 rfl (ci := 11) (q := (RX11, TX11, 11)) rfl, smPc_in [.ref (adr a0), .int x1] hE hP⟩ rfl rfl hl.1 rfl (lv_room (Nat.le_of_ble_eq_true rfl)) dX11_add_82 ⟨Nat.zero_le _, Nat.zero_le _⟩) hS (fun H locs hP hS => ?_)
            cases h
            exact sm_iret hx hb hr hlocks hP hS dX11_add_85
          · rw [if_neg c40_1145] at h
            refine lv_iload hx hb dX11_add_43 (lv_at hl 0 rfl) ?_
            cases h
            exact sm_iret hx hb hr hlocks hP hS dX11_add_45
        · rw [if_neg c21_1140] at h
          refine lv_iconst (v := (-1 : Int32)) hx hb dX11_add_24 (by decide) ?_
          cases h
          exact sm_iret hx hb hr hlocks hP hS dX11_add_25
set_option maxHeartbeats 4000000 in
set_option maxRecDepth 100000 in
theorem k_X11_asAnswer (l : Launch) (D : va_G) (cA : Nat → ClassId) (adr : Nat → Nat) (hJ : smJ 1 adr) (x0 : Int32) (M : smM) (v1 : Int32) (h : m_X11_asAnswer x0 M = some v1) : Met l yX11_asAnswer wsX11_asAnswer ({ frames := 0, cells := 0, slots := 0, locals := 0 }) (smPc D cA 1 adr M [.int x0]) (smQi D cA 1 adr M v1) 0 0 (smA 1 adr) := by
  refine Met.ofW (cc := cX11_asAnswer) (maxL := 1) (ret := (some .int)) (by decide) rfl ?_
  intro p e s m args below meth c s₁ B hml hv
  obtain ⟨rfl, hE, hP⟩ := hv
  have hx := B.exec
  have hb := B.bytes
  have hr := B.returns
  have hts := atoms_spec (ws := wsX11_asAnswer) B.pre
  have hown : s.vm.findClass RX11 = some m.cls := findClass_of_methodNamed B.named
  have hlocks := B.notSynchronized
  have hS : va_S (smA 1 adr) s.heap s.heap [] := va_S.rf
  have hP : smP D cA 1 adr M s.heap := hP
  have hl := lv_entry ([.int x0]) (n := 1) (Nat.le_of_ble_eq_true rfl)
  rw [lg_entry_eq]
  generalize (lg_sl ([.int x0]) ++ List.replicate (1 - (lg_sl ([.int x0])).length) Slot.unset).toArray = ls at hl ⊢
  have hl : lv_has ls 1 [(0, .int x0)] := hl
  unfold m_X11_asAnswer at h
  refine lv_iload_n hx hb dX11_asAnswer_0 rfl (lv_at hl 0 rfl) ?_
  refine lv_if_eq (tgt := 8) hx hb dX11_asAnswer_1 (by decide) (fun c1_1156 => ?_) (fun c1_1156 => ?_)
  · rw [if_pos c1_1156] at h
    refine lv_iconst (v := (0 : Int32)) hx hb dX11_asAnswer_8 (by decide) ?_
    cases h
    exact sm_iret hx hb hr hlocks hP hS dX11_asAnswer_9
  · rw [if_neg c1_1156] at h
    refine lv_iconst (v := (1 : Int32)) hx hb dX11_asAnswer_4 (by decide) ?_
    refine lv_goto (tgt := 9) hx hb dX11_asAnswer_5 (by decide) ?_
    cases h
    exact sm_iret hx hb hr hlocks hP hS dX11_asAnswer_9
set_option maxHeartbeats 4000000 in
set_option maxRecDepth 100000 in
theorem k_X11_baseIn (l : Launch) (D : va_G) (cA : Nat → ClassId) (adr : Nat → Nat) (hJ : smJ 1 adr) (a0 : Nat) (x1 : Int32) (ha0 : smT 1 a0 11) (M : smM) (v1 : Nat) (M1 : smM) (h : m_X11_baseIn a0 x1 M = some (v1, M1)) : Met l yX11_baseIn wsX11_baseIn ({ frames := 5, cells := 0, slots := 0, locals := 123 }) (smPc D cA 1 adr M [.ref (adr a0), .int x1]) (smQr D cA 1 adr M1 v1 0) 0 0 (smA 1 adr) := by
  refine Met.ofW (cc := cX11_baseIn) (maxL := 2) (ret := (some (.object "OrderMover$Base"))) (by decide) rfl ?_
  intro p e s m args below meth c s₁ B hml hv
  obtain ⟨rfl, hE, hP⟩ := hv
  have hx := B.exec
  have hb := B.bytes
  have hr := B.returns
  have hts := atoms_spec (ws := wsX11_baseIn) B.pre
  have hown : s.vm.findClass RX11 = some m.cls := findClass_of_methodNamed B.named
  have hlocks := B.notSynchronized
  have hS : va_S (smA 1 adr) s.heap s.heap [] := va_S.rf
  have hP : smP D cA 1 adr M s.heap := hP
  have hl := lv_entry ([.ref (adr a0), .int x1]) (n := 2) (Nat.le_of_ble_eq_true rfl)
  rw [lg_entry_eq]
  generalize (lg_sl ([.ref (adr a0), .int x1]) ++ List.replicate (2 - (lg_sl ([.ref (adr a0), .int x1])).length) Slot.unset).toArray = ls at hl ⊢
  have hl : lv_has ls 2 [(0, .ref (adr a0)), (1, .int x1)] := hl
  unfold m_X11_baseIn at h
  have hin11 : ∀ w ∈ u_ws RX11 TX11 11, w ∈ wsX11_baseIn := by decide +kernel
  refine lv_aload_n hx hb dX11_baseIn_0 rfl (lv_at hl 0 rfl) ?_
  refine sm_get (ci := 11) (C := RX11) (T := TX11) (N := 11) (v := .ref (adr (a0 + 93))) hx hb hts hin11 hown hE hP ha0 rfl rfl 4 (by decide) (hts (.fieldLink RX11 33 "OrderMover" "ideal" "LOrderMover$Ideal;") (by decide +kernel)) (fun _ h9 => h9) rfl dX11_baseIn_1 ?_
  refine lv_aload_n hx hb dX11_baseIn_4 rfl (lv_at hl 0 rfl) ?_
  refine sm_get (ci := 11) (C := RX11) (T := TX11) (N := 11) (v := .ref (adr (a0 + 1))) hx hb hts hin11 hown hE hP ha0 rfl rfl 0 (by decide) (hts (.fieldLink RX11 12 "OrderMover" "setting" "LOrderMover$Setting;") (by decide +kernel)) (fun _ h9 => h9) rfl dX11_baseIn_5 ?_
  obtain ⟨M8_1158, hc8_1159, h⟩ := sm_bd h
  refine sm_cv (va_runV (As := [.ref (adr (a0 + 1))]) (rest := []) ⟨hx, hb, hml, hown, hts⟩ (k_X2_bringUpToDate l D cA adr hJ (a0 + 93) (a0 + 1) (t11_4 ha0) (t11_0 ha0) M M8_1158 hc8_1159) (cwV 1 hts gX11_baseIn_X2_bringUpToDate rfl rfl rfl (by decide +kernel) ⟨Nat.le_of_ble_eq_true rfl, Nat.le_of_ble_eq_true rfl⟩) ⟨smPc_bl, smRv hE hP (t11_4 ha0) rfl (ci := 2) (q := (RX2, TX2, 9)) rfl, smPc_in [.ref (adr (a0 + 93)), .ref (adr (a0 + 1))] hE hP⟩ rfl rfl hl.1 rfl (lv_room (Nat.le_of_ble_eq_true rfl)) dX11_baseIn_8 ⟨Nat.zero_le _, Nat.zero_le _⟩) hS (fun H locs hP hS => ?_)
  refine lv_aload_n hx hb dX11_baseIn_11 rfl (lv_at hl 0 rfl) ?_
  refine sm_get (ci := 11) (C := RX11) (T := TX11) (N := 11) (v := .ref (adr (a0 + 93))) hx hb hts hin11 hown hE hP ha0 rfl rfl 4 (by decide) (hts (.fieldLink RX11 33 "OrderMover" "ideal" "LOrderMover$Ideal;") (by decide +kernel)) (fun _ h9 => h9) rfl dX11_baseIn_12 ?_
  refine lv_iload_n hx hb dX11_baseIn_15 rfl (lv_at hl 1 rfl) ?_
  refine lv_aload_n hx hb dX11_baseIn_16 rfl (lv_at hl 0 rfl) ?_
  refine sm_get (ci := 11) (C := RX11) (T := TX11) (N := 11) (v := .ref (adr (a0 + 1))) hx hb hts hin11 hown hE hP ha0 rfl rfl 0 (by decide) (hts (.fieldLink RX11 12 "OrderMover" "setting" "LOrderMover$Setting;") (by decide +kernel)) (fun _ h9 => h9) rfl dX11_baseIn_17 ?_
  obtain ⟨v20_1160, M20_1161, hc20_1162, h⟩ := sm_bd2 h
  refine sm_cr (va_runV (As := [.int x1, .ref (adr (a0 + 1))]) (rest := []) ⟨hx, hb, hml, hown, hts⟩ (k_X2_baseOf l D cA adr hJ (a0 + 93) x1 (a0 + 1) (t11_4 ha0) (t11_0 ha0) M8_1158 v20_1160 M20_1161 hc20_1162) (cwV 2 hts gX11_baseIn_X2_baseOf rfl rfl rfl (by decide +kernel) ⟨Nat.le_of_ble_eq_true rfl, Nat.le_of_ble_eq_true rfl⟩) ⟨smPc_bl, smRv hE hP (t11_4 ha0) rfl (ci := 2) (q := (RX2, TX2, 9)) rfl, smPc_in [.ref (adr (a0 + 93)), .int x1, .ref (adr (a0 + 1))] hE hP⟩ rfl rfl hl.1 rfl (lv_room (Nat.le_of_ble_eq_true rfl)) dX11_baseIn_20 ⟨Nat.zero_le _, Nat.zero_le _⟩) hS (fun H locs hk20_1163 hP hS => ?_)
  cases h
  exact sm_aret hx hb hr (by first | exact Or.inl ⟨_, rfl⟩ | exact Or.inr ⟨_, rfl⟩) hlocks hk20_1163 hP hS dX11_baseIn_23
set_option maxHeartbeats 4000000 in
set_option maxRecDepth 100000 in
theorem k_X11_base (l : Launch) (D : va_G) (cA : Nat → ClassId) (adr : Nat → Nat) (hJ : smJ 1 adr) (a0 : Nat) (x1 : Int32) (x2 : Int32) (ha0 : smT 1 a0 11) (M : smM) (v1 : Int32) (M1 : smM) (h : m_X11_base a0 x1 x2 M = some (v1, M1)) : Met l yX11_base wsX11_base ({ frames := 6, cells := 0, slots := 0, locals := 144 }) (smPc D cA 1 adr M [.ref (adr a0), .int x1, .int x2]) (smQi D cA 1 adr M1 v1) 0 0 (smA 1 adr) := by
  refine Met.ofW (cc := cX11_base) (maxL := 4) (ret := (some .int)) (by decide) rfl ?_
  intro p e s m args below meth c s₁ B hml hv
  obtain ⟨rfl, hE, hP⟩ := hv
  have hx := B.exec
  have hb := B.bytes
  have hr := B.returns
  have hts := atoms_spec (ws := wsX11_base) B.pre
  have hown : s.vm.findClass RX11 = some m.cls := findClass_of_methodNamed B.named
  have hlocks := B.notSynchronized
  have hS : va_S (smA 1 adr) s.heap s.heap [] := va_S.rf
  have hP : smP D cA 1 adr M s.heap := hP
  have hl := lv_entry ([.ref (adr a0), .int x1, .int x2]) (n := 4) (Nat.le_of_ble_eq_true rfl)
  rw [lg_entry_eq]
  generalize (lg_sl ([.ref (adr a0), .int x1, .int x2]) ++ List.replicate (4 - (lg_sl ([.ref (adr a0), .int x1, .int x2])).length) Slot.unset).toArray = ls at hl ⊢
  have hl : lv_has ls 4 [(0, .ref (adr a0)), (1, .int x1), (2, .int x2)] := hl
  unfold m_X11_base at h
  have hin0 : ∀ w ∈ u_ws RX0 TX0 9, w ∈ wsX11_base := by decide +kernel
  have hin4 : ∀ w ∈ u_ws RX4 TX4 4, w ∈ wsX11_base := by decide +kernel
  refine lv_iload_n hx hb dX11_base_0 rfl (lv_at hl 1 rfl) ?_
  obtain ⟨v1_1164, hc1_1166, h⟩ := sm_bd h
  refine sm_ci (va_runS (As := [.int x1]) (rest := []) ⟨hx, hb, hml, hown, hts⟩ (k_X11_isOrder l D cA adr hJ x1  M v1_1164 hc1_1166) (va_cwS 1 hts gX11_base_X11_isOrder rfl rfl rfl (by decide +kernel) ⟨Nat.le_of_ble_eq_true rfl, Nat.le_of_ble_eq_true rfl⟩) ⟨smPc_bl, smPc_in [.int x1] hE hP⟩ rfl rfl hl.1 rfl (lv_room (Nat.le_of_ble_eq_true rfl)) dX11_base_1 ⟨Nat.zero_le _, Nat.zero_le _⟩) hS (fun H locs hP hS => ?_)
  refine lv_if_ne (tgt := 9) hx hb dX11_base_4 (by decide) (fun c4_1167 => ?_) (fun c4_1167 => ?_)
  · rw [if_neg c4_1167] at h
    refine lv_aload_n hx hb dX11_base_9 rfl (lv_at hl 0 rfl) ?_
    refine lv_iload_n hx hb dX11_base_10 rfl (lv_at hl 1 rfl) ?_
    obtain ⟨v11_1168, M11_1169, hc11_1170, h⟩ := sm_bd2 h
    refine sm_cr (va_runV (As := [.int x1]) (rest := []) ⟨hx, hb, hml, hown, hts⟩ (k_X11_baseIn l D cA adr hJ a0 x1 ha0 M v11_1168 M11_1169 hc11_1170) (cwV 1 hts gX11_base_X11_baseIn rfl rfl rfl (by decide +kernel) ⟨Nat.le_of_ble_eq_true rfl, Nat.le_of_ble_eq_true rfl⟩) ⟨smPc_bl, smRv hE hP ha0 rfl (ci := 11) (q := (RX11, TX11, 11)) rfl, smPc_in [.ref (adr a0), .int x1] hE hP⟩ rfl rfl hl.1 rfl (lv_room (Nat.le_of_ble_eq_true rfl)) dX11_base_11 ⟨Nat.zero_le _, Nat.zero_le _⟩) hS (fun H locs hk11_1171 hP hS => ?_)
    refine lv_astore_n (lv' := [(3, .ref (adr v11_1168)), (0, .ref (adr a0)), (1, .int x1), (2, .int x2)]) hx hb dX11_base_14 rfl hl (by decide) rfl (fun ls hl => ?_)
    refine lv_iload_n hx hb dX11_base_15 rfl (lv_at hl 3 rfl) ?_
    by_cases c16_1172 : x2 = (0 : Int32)
    · rw [if_pos c16_1172] at h
      refine lv_tableIn (tgt := 44) hx hb dX11_base_16 (by rw [c16_1172]; decide) (by rw [c16_1172]; decide) (by rw [c16_1172]; rfl) (by decide) ?_
      refine lv_aload_n hx hb dX11_base_44 rfl (lv_at hl 0 rfl) ?_
      refine sm_get (ci := 0) (C := RX0) (T := TX0) (N := 9) (v := .ref (adr (v11_1168 + 2))) hx hb hts hin0 hown hE hP hk11_1171 rfl rfl 1 (by decide) (hts (.fieldLink RX11 161 "OrderMover$Base" "members" "LOrderMover$Members;") (by decide +kernel)) (fun _ h9 => h9) rfl dX11_base_45 ?_
      refine sm_get (ci := 4) (C := RX4) (T := TX4) (N := 4) (v := .int (M11_1169 (v11_1168 + 2) 0)) hx hb hts hin4 hown hE hP (t0_1 hk11_1171) rfl rfl 0 (by decide) (hts (.fieldLink RX11 165 "OrderMover$Members" "howMany" "I") (by decide +kernel)) (fun _ h9 => h9) rfl dX11_base_48 ?_
      cases h
      exact sm_iret hx hb hr hlocks hP hS dX11_base_51
    rw [if_neg c16_1172] at h
    by_cases c16_1173 : x2 = (1 : Int32)
    · rw [if_pos c16_1173] at h
      refine lv_tableIn (tgt := 52) hx hb dX11_base_16 (by rw [c16_1173]; decide) (by rw [c16_1173]; decide) (by rw [c16_1173]; rfl) (by decide) ?_
      refine lv_aload_n hx hb dX11_base_52 rfl (lv_at hl 0 rfl) ?_
      refine sm_get (ci := 0) (C := RX0) (T := TX0) (N := 9) (v := .ref (adr (v11_1168 + 2))) hx hb hts hin0 hown hE hP hk11_1171 rfl rfl 1 (by decide) (hts (.fieldLink RX11 161 "OrderMover$Base" "members" "LOrderMover$Members;") (by decide +kernel)) (fun _ h9 => h9) rfl dX11_base_53 ?_
      obtain ⟨v56_1174, hc56_1176, h⟩ := sm_bd h
      refine sm_ci (va_runV (As := []) (rest := []) ⟨hx, hb, hml, hown, hts⟩ (k_X4_greatestSum l D cA adr hJ (v11_1168 + 2) (t0_1 hk11_1171) M11_1169 v56_1174 hc56_1176) (cwV 0 hts gX11_base_X4_greatestSum rfl rfl rfl (by decide +kernel) ⟨Nat.le_of_ble_eq_true rfl, Nat.le_of_ble_eq_true rfl⟩) ⟨smPc_bl, smRv hE hP (t0_1 hk11_1171) rfl (ci := 4) (q := (RX4, TX4, 4)) rfl, smPc_in [.ref (adr (v11_1168 + 2))] hE hP⟩ rfl rfl hl.1 rfl (lv_room (Nat.le_of_ble_eq_true rfl)) dX11_base_56 ⟨Nat.zero_le _, Nat.zero_le _⟩) hS (fun H locs hP hS => ?_)
      cases h
      exact sm_iret hx hb hr hlocks hP hS dX11_base_59
    rw [if_neg c16_1173] at h
    by_cases c16_1177 : x2 = (2 : Int32)
    · rw [if_pos c16_1177] at h
      refine lv_tableIn (tgt := 60) hx hb dX11_base_16 (by rw [c16_1177]; decide) (by rw [c16_1177]; decide) (by rw [c16_1177]; rfl) (by decide) ?_
      refine lv_aload_n hx hb dX11_base_60 rfl (lv_at hl 0 rfl) ?_
      obtain ⟨v61_1178, hc61_1180, h⟩ := sm_bd h
      refine sm_ci (va_runV (As := []) (rest := []) ⟨hx, hb, hml, hown, hts⟩ (k_X0_greatestStairSum l D cA adr hJ v11_1168 hk11_1171 M11_1169 v61_1178 hc61_1180) (cwV 0 hts gX11_base_X0_greatestStairSum rfl rfl rfl (by decide +kernel) ⟨Nat.le_of_ble_eq_true rfl, Nat.le_of_ble_eq_true rfl⟩) ⟨smPc_bl, smRv hE hP hk11_1171 rfl (ci := 0) (q := (RX0, TX0, 9)) rfl, smPc_in [.ref (adr v11_1168)] hE hP⟩ rfl rfl hl.1 rfl (lv_room (Nat.le_of_ble_eq_true rfl)) dX11_base_61 ⟨Nat.zero_le _, Nat.zero_le _⟩) hS (fun H locs hP hS => ?_)
      cases h
      exact sm_iret hx hb hr hlocks hP hS dX11_base_64
    rw [if_neg c16_1177] at h
    have qc16_1172 := sm_ne (j := 0) c16_1172 (by decide)
    have qc16_1173 := sm_ne (j := 1) c16_1173 (by decide)
    have qc16_1177 := sm_ne (j := 2) c16_1177 (by decide)
    refine lv_tableOut (tgt := 65) hx hb dX11_base_16 (by omega) (by decide) ?_
    refine lv_iconst (v := (-1 : Int32)) hx hb dX11_base_65 (by decide) ?_
    cases h
    exact sm_iret hx hb hr hlocks hP hS dX11_base_66
  · rw [if_pos c4_1167] at h
    refine lv_iconst (v := (-1 : Int32)) hx hb dX11_base_7 (by decide) ?_
    cases h
    exact sm_iret hx hb hr hlocks hP hS dX11_base_8
set_option maxHeartbeats 4000000 in
set_option maxRecDepth 100000 in
theorem k_X11_sumVectors (l : Launch) (D : va_G) (cA : Nat → ClassId) (adr : Nat → Nat) (hJ : smJ 1 adr) (a0 : Nat) (a1 : Nat) (ha0 : smT 1 a0 11) (ha1 : smT 1 a1 5) (M : smM) (M1 : smM) (h : m_X11_sumVectors a0 a1 M = some M1) : Met l yX11_sumVectors wsX11_sumVectors ({ frames := 5, cells := 0, slots := 0, locals := 123 }) (smPc D cA 1 adr M [.ref (adr a0), .ref (adr a1)]) (smQv D cA 1 adr M1) 0 0 (smA 1 adr) := by
  refine Met.ofW (cc := cX11_sumVectors) (maxL := 3) (ret := none) (by decide) rfl ?_
  intro p e s m args below meth c s₁ B hml hv
  obtain ⟨rfl, hE, hP⟩ := hv
  have hx := B.exec
  have hb := B.bytes
  have hr := B.returns
  have hts := atoms_spec (ws := wsX11_sumVectors) B.pre
  have hown : s.vm.findClass RX11 = some m.cls := findClass_of_methodNamed B.named
  have hlocks := B.notSynchronized
  have hS : va_S (smA 1 adr) s.heap s.heap [] := va_S.rf
  have hP : smP D cA 1 adr M s.heap := hP
  have hl := lv_entry ([.ref (adr a0), .ref (adr a1)]) (n := 3) (Nat.le_of_ble_eq_true rfl)
  rw [lg_entry_eq]
  generalize (lg_sl ([.ref (adr a0), .ref (adr a1)]) ++ List.replicate (3 - (lg_sl ([.ref (adr a0), .ref (adr a1)])).length) Slot.unset).toArray = ls at hl ⊢
  have hl : lv_has ls 3 [(0, .ref (adr a0)), (1, .ref (adr a1))] := hl
  unfold m_X11_sumVectors at h
  have hin5 : ∀ w ∈ u_ws RX5 TX5 4, w ∈ wsX11_sumVectors := by decide +kernel
  have hin7 : ∀ w ∈ u_ws RX7 TX7 7, w ∈ wsX11_sumVectors := by decide +kernel
  have hin11 : ∀ w ∈ u_ws RX11 TX11 11, w ∈ wsX11_sumVectors := by decide +kernel
  refine lv_aload_n hx hb dX11_sumVectors_0 rfl (lv_at hl 0 rfl) ?_
  refine sm_get (ci := 11) (C := RX11) (T := TX11) (N := 11) (v := .ref (adr (a0 + 93))) hx hb hts hin11 hown hE hP ha0 rfl rfl 4 (by decide) (hts (.fieldLink RX11 33 "OrderMover" "ideal" "LOrderMover$Ideal;") (by decide +kernel)) (fun _ h9 => h9) rfl dX11_sumVectors_1 ?_
  refine lv_aload_n hx hb dX11_sumVectors_4 rfl (lv_at hl 0 rfl) ?_
  refine sm_get (ci := 11) (C := RX11) (T := TX11) (N := 11) (v := .ref (adr (a0 + 1))) hx hb hts hin11 hown hE hP ha0 rfl rfl 0 (by decide) (hts (.fieldLink RX11 12 "OrderMover" "setting" "LOrderMover$Setting;") (by decide +kernel)) (fun _ h9 => h9) rfl dX11_sumVectors_5 ?_
  obtain ⟨M8_1182, hc8_1183, h⟩ := sm_bd h
  refine sm_cv (va_runV (As := [.ref (adr (a0 + 1))]) (rest := []) ⟨hx, hb, hml, hown, hts⟩ (k_X2_bringUpToDate l D cA adr hJ (a0 + 93) (a0 + 1) (t11_4 ha0) (t11_0 ha0) M M8_1182 hc8_1183) (cwV 1 hts gX11_sumVectors_X2_bringUpToDate rfl rfl rfl (by decide +kernel) ⟨Nat.le_of_ble_eq_true rfl, Nat.le_of_ble_eq_true rfl⟩) ⟨smPc_bl, smRv hE hP (t11_4 ha0) rfl (ci := 2) (q := (RX2, TX2, 9)) rfl, smPc_in [.ref (adr (a0 + 93)), .ref (adr (a0 + 1))] hE hP⟩ rfl rfl hl.1 rfl (lv_room (Nat.le_of_ble_eq_true rfl)) dX11_sumVectors_8 ⟨Nat.zero_le _, Nat.zero_le _⟩) hS (fun H locs hP hS => ?_)
  refine lv_aload_n hx hb dX11_sumVectors_11 rfl (lv_at hl 0 rfl) ?_
  refine sm_get (ci := 11) (C := RX11) (T := TX11) (N := 11) (v := .ref (adr (a0 + 505))) hx hb hts hin11 hown hE hP ha0 rfl rfl 9 (by decide) (hts (.fieldLink RX11 64 "OrderMover" "sum" "[I") (by decide +kernel)) (fun _ h9 => h9) rfl dX11_sumVectors_12 ?_
  obtain ⟨M15_1185, hc15_1186, h⟩ := sm_bd h
  refine sm_cv (va_runS (As := [.ref (adr (a0 + 505))]) (rest := []) ⟨hx, hb, hml, hown, hts⟩ (k_X11_clear l D cA adr hJ (a0 + 505) (t11_9 ha0) M8_1182 M15_1185 hc15_1186) (va_cwS 1 hts gX11_sumVectors_X11_clear rfl rfl rfl (by decide +kernel) ⟨Nat.le_of_ble_eq_true rfl, Nat.le_of_ble_eq_true rfl⟩) ⟨smPc_bl, smPc_in [.ref (adr (a0 + 505))] hE hP⟩ rfl rfl hl.1 rfl (lv_room (Nat.le_of_ble_eq_true rfl)) dX11_sumVectors_15 ⟨Nat.zero_le _, Nat.zero_le _⟩) hS (fun H locs hP hS => ?_)
  refine lv_iconst (v := (0 : Int32)) hx hb dX11_sumVectors_18 (by decide) ?_
  refine lv_istore_n (lv' := [(2, .int (0 : Int32)), (0, .ref (adr a0)), (1, .ref (adr a1))]) hx hb dX11_sumVectors_19 rfl hl (by decide) rfl (fun ls hl => ?_)
  refine sm_lp (b := fun rc q => m_X11_sumVectors_b20 a0 a1 rc q.1 q.2) (P := fun (q : Int32 × smM) H locs ls => smP D cA 1 adr q.2 H ∧ va_S (smA 1 adr) s.heap H locs ∧ lv_has ls 3 [(0, .ref (adr a0)), (1, .ref (adr a1)), (2, .int q.1)]) (pc := 20) ?_ _ _ _ _ _ h ⟨hP, hS, lv_sub hl [1, 2, 0] rfl⟩
  intro rc20_1189 ih20_1190 q H locs ls h hI
  obtain ⟨x2_20_1187, M20_1188⟩ := q
  obtain ⟨hP, hS, hl⟩ := hI
  have hP : smP D cA 1 adr M20_1188 H := hP
  have hl : lv_has ls 3 [(0, .ref (adr a0)), (1, .ref (adr a1)), (2, .int x2_20_1187)] := hl
  have h : m_X11_sumVectors_b20 a0 a1 rc20_1189 x2_20_1187 M20_1188 = some _ := h
  unfold m_X11_sumVectors_b20 at h
  refine lv_iload_n hx hb dX11_sumVectors_20 rfl (lv_at hl 2 rfl) ?_
  refine lv_aload_n hx hb dX11_sumVectors_21 rfl (lv_at hl 1 rfl) ?_
  refine sm_get (ci := 5) (C := RX5) (T := TX5) (N := 4) (v := .int (M20_1188 a1 0)) hx hb hts hin5 hown hE hP ha1 rfl rfl 0 (by decide) (hts (.fieldLink RX11 279 "OrderMover$Polynomial" "howMany" "I") (by decide +kernel)) (fun _ h9 => h9) rfl dX11_sumVectors_22 ?_
  refine lv_icmp_ge (tgt := 81) hx hb dX11_sumVectors_25 (by decide) (fun c25_1191 => ?_) (fun c25_1191 => ?_)
  · rw [if_pos c25_1191] at h
    cases h
    exact sm_vret hx hb hr hlocks hP hS dX11_sumVectors_81
  · rw [if_neg c25_1191] at h
    refine lv_aload_n hx hb dX11_sumVectors_28 rfl (lv_at hl 0 rfl) ?_
    refine sm_get (ci := 11) (C := RX11) (T := TX11) (N := 11) (v := .ref (adr (a0 + 93))) hx hb hts hin11 hown hE hP ha0 rfl rfl 4 (by decide) (hts (.fieldLink RX11 33 "OrderMover" "ideal" "LOrderMover$Ideal;") (by decide +kernel)) (fun _ h9 => h9) rfl dX11_sumVectors_29 ?_
    refine lv_aload_n hx hb dX11_sumVectors_32 rfl (lv_at hl 1 rfl) ?_
    refine sm_get (ci := 5) (C := RX5) (T := TX5) (N := 4) (v := .ref (adr (a1 + 2))) hx hb hts hin5 hown hE hP ha1 rfl rfl 2 (by decide) (hts (.fieldLink RX11 281 "OrderMover$Polynomial" "xs" "[I") (by decide +kernel)) (fun _ h9 => h9) rfl dX11_sumVectors_33 ?_
    refine lv_iload_n hx hb dX11_sumVectors_36 rfl (lv_at hl 2 rfl) ?_
    obtain ⟨c37_1192, h⟩ := sm_ck h
    refine sm_iald hx hb hE hP (t5_2 ha1) c37_1192 dX11_sumVectors_37 ?_
    refine lv_aload_n hx hb dX11_sumVectors_38 rfl (lv_at hl 1 rfl) ?_
    refine sm_get (ci := 5) (C := RX5) (T := TX5) (N := 4) (v := .ref (adr (a1 + 3))) hx hb hts hin5 hown hE hP ha1 rfl rfl 3 (by decide) (hts (.fieldLink RX11 282 "OrderMover$Polynomial" "ys" "[I") (by decide +kernel)) (fun _ h9 => h9) rfl dX11_sumVectors_39 ?_
    refine lv_iload_n hx hb dX11_sumVectors_42 rfl (lv_at hl 2 rfl) ?_
    obtain ⟨c43_1193, h⟩ := sm_ck h
    refine sm_iald hx hb hE hP (t5_3 ha1) c43_1193 dX11_sumVectors_43 ?_
    refine lv_aload_n hx hb dX11_sumVectors_44 rfl (lv_at hl 0 rfl) ?_
    refine sm_get (ci := 11) (C := RX11) (T := TX11) (N := 11) (v := .ref (adr (a0 + 504))) hx hb hts hin11 hown hE hP ha0 rfl rfl 8 (by decide) (hts (.fieldLink RX11 60 "OrderMover" "vector" "[I") (by decide +kernel)) (fun _ h9 => h9) rfl dX11_sumVectors_45 ?_
    obtain ⟨M48_1195, hc48_1196, h⟩ := sm_bd h
    refine sm_cv (va_runV (As := [.int (M20_1188 (a1 + 2) (x2_20_1187).toNatClampNeg), .int (M20_1188 (a1 + 3) (x2_20_1187).toNatClampNeg), .ref (adr (a0 + 504))]) (rest := []) ⟨hx, hb, hml, hown, hts⟩ (k_X2_vectorOfTerm l D cA adr hJ (a0 + 93) (M20_1188 (a1 + 2) (x2_20_1187).toNatClampNeg) (M20_1188 (a1 + 3) (x2_20_1187).toNatClampNeg) (a0 + 504) (t11_4 ha0) (t11_8 ha0) M20_1188 M48_1195 hc48_1196) (cwV 3 hts gX11_sumVectors_X2_vectorOfTerm rfl rfl rfl (by decide +kernel) ⟨Nat.le_of_ble_eq_true rfl, Nat.le_of_ble_eq_true rfl⟩) ⟨smPc_bl, smRv hE hP (t11_4 ha0) rfl (ci := 2) (q := (RX2, TX2, 9)) rfl, smPc_in [.ref (adr (a0 + 93)), .int (M20_1188 (a1 + 2) (x2_20_1187).toNatClampNeg), .int (M20_1188 (a1 + 3) (x2_20_1187).toNatClampNeg), .ref (adr (a0 + 504))] hE hP⟩ rfl rfl hl.1 rfl (lv_room (Nat.le_of_ble_eq_true rfl)) dX11_sumVectors_48 ⟨Nat.zero_le _, Nat.zero_le _⟩) hS (fun H locs hP hS => ?_)
    refine lv_aload_n hx hb dX11_sumVectors_51 rfl (lv_at hl 0 rfl) ?_
    refine sm_get (ci := 11) (C := RX11) (T := TX11) (N := 11) (v := .ref (adr (a0 + 505))) hx hb hts hin11 hown hE hP ha0 rfl rfl 9 (by decide) (hts (.fieldLink RX11 64 "OrderMover" "sum" "[I") (by decide +kernel)) (fun _ h9 => h9) rfl dX11_sumVectors_52 ?_
    refine lv_aload_n hx hb dX11_sumVectors_55 rfl (lv_at hl 0 rfl) ?_
    refine sm_get (ci := 11) (C := RX11) (T := TX11) (N := 11) (v := .ref (adr (a0 + 504))) hx hb hts hin11 hown hE hP ha0 rfl rfl 8 (by decide) (hts (.fieldLink RX11 60 "OrderMover" "vector" "[I") (by decide +kernel)) (fun _ h9 => h9) rfl dX11_sumVectors_56 ?_
    refine lv_aload_n hx hb dX11_sumVectors_59 rfl (lv_at hl 1 rfl) ?_
    refine sm_get (ci := 5) (C := RX5) (T := TX5) (N := 4) (v := .ref (adr (a1 + 1))) hx hb hts hin5 hown hE hP ha1 rfl rfl 1 (by decide) (hts (.fieldLink RX11 280 "OrderMover$Polynomial" "numbers" "[I") (by decide +kernel)) (fun _ h9 => h9) rfl dX11_sumVectors_60 ?_
    refine lv_iload_n hx hb dX11_sumVectors_63 rfl (lv_at hl 2 rfl) ?_
    obtain ⟨c64_1197, h⟩ := sm_ck h
    refine sm_iald hx hb hE hP (t5_1 ha1) c64_1197 dX11_sumVectors_64 ?_
    refine lv_aload_n hx hb dX11_sumVectors_65 rfl (lv_at hl 0 rfl) ?_
    refine sm_get (ci := 11) (C := RX11) (T := TX11) (N := 11) (v := .ref (adr (a0 + 1))) hx hb hts hin11 hown hE hP ha0 rfl rfl 0 (by decide) (hts (.fieldLink RX11 12 "OrderMover" "setting" "LOrderMover$Setting;") (by decide +kernel)) (fun _ h9 => h9) rfl dX11_sumVectors_66 ?_
    refine sm_get (ci := 7) (C := RX7) (T := TX7) (N := 7) (v := .int (M48_1195 (a0 + 1) 0)) hx hb hts hin7 hown hE hP (t11_0 ha0) rfl rfl 0 (by decide) (hts (.fieldLink RX11 75 "OrderMover$Setting" "p" "I") (by decide +kernel)) (fun _ h9 => h9) rfl dX11_sumVectors_69 ?_
    obtain ⟨M72_1199, hc72_1200, h⟩ := sm_bd h
    refine sm_cv (va_runS (As := [.ref (adr (a0 + 505)), .ref (adr (a0 + 504)), .int (M48_1195 (a1 + 1) (x2_20_1187).toNatClampNeg), .int (M48_1195 (a0 + 1) 0)]) (rest := []) ⟨hx, hb, hml, hown, hts⟩ (k_X11_bringMultiple l D cA adr hJ (a0 + 505) (a0 + 504) (M48_1195 (a1 + 1) (x2_20_1187).toNatClampNeg) (M48_1195 (a0 + 1) 0) (t11_9 ha0) (t11_8 ha0) M48_1195 M72_1199 hc72_1200) (va_cwS 4 hts gX11_sumVectors_X11_bringMultiple rfl rfl rfl (by decide +kernel) ⟨Nat.le_of_ble_eq_true rfl, Nat.le_of_ble_eq_true rfl⟩) ⟨smPc_bl, smPc_in [.ref (adr (a0 + 505)), .ref (adr (a0 + 504)), .int (M48_1195 (a1 + 1) (x2_20_1187).toNatClampNeg), .int (M48_1195 (a0 + 1) 0)] hE hP⟩ rfl rfl hl.1 rfl (lv_room (Nat.le_of_ble_eq_true rfl)) dX11_sumVectors_72 ⟨Nat.zero_le _, Nat.zero_le _⟩) hS (fun H locs hP hS => ?_)
    refine lv_iinc (v := (x2_20_1187 + (1 : Int32))) (lv' := [(2, .int (x2_20_1187 + (1 : Int32))), (0, .ref (adr a0)), (1, .ref (adr a1))]) hx hb dX11_sumVectors_75 hl (k := 2) rfl (congrArg (fun z => x2_20_1187 + z) (by decide)) (by decide) rfl (fun ls hl => ?_)
    refine lv_goto (tgt := 20) hx hb dX11_sumVectors_78 (by decide) ?_
    exact ih20_1190 ((x2_20_1187 + (1 : Int32)), M72_1199) _ _ _ h ⟨hP, hS, lv_sub hl [1, 2, 0] rfl⟩
set_option maxHeartbeats 4000000 in
set_option maxRecDepth 100000 in
theorem k_X11_belongs (l : Launch) (D : va_G) (cA : Nat → ClassId) (adr : Nat → Nat) (hJ : smJ 1 adr) (a0 : Nat) (x1 : Int32) (ha0 : smT 1 a0 11) (M : smM) (v1 : Int32) (M1 : smM) (h : m_X11_belongs a0 x1 M = some (v1, M1)) : Met l yX11_belongs wsX11_belongs ({ frames := 6, cells := 0, slots := 0, locals := 145 }) (smPc D cA 1 adr M [.ref (adr a0), .int x1]) (smQi D cA 1 adr M1 v1) 0 0 (smA 1 adr) := by
  refine Met.ofW (cc := cX11_belongs) (maxL := 3) (ret := (some .int)) (by decide) rfl ?_
  intro p e s m args below meth c s₁ B hml hv
  obtain ⟨rfl, hE, hP⟩ := hv
  have hx := B.exec
  have hb := B.bytes
  have hr := B.returns
  have hts := atoms_spec (ws := wsX11_belongs) B.pre
  have hown : s.vm.findClass RX11 = some m.cls := findClass_of_methodNamed B.named
  have hlocks := B.notSynchronized
  have hS : va_S (smA 1 adr) s.heap s.heap [] := va_S.rf
  have hP : smP D cA 1 adr M s.heap := hP
  have hl := lv_entry ([.ref (adr a0), .int x1]) (n := 3) (Nat.le_of_ble_eq_true rfl)
  rw [lg_entry_eq]
  generalize (lg_sl ([.ref (adr a0), .int x1]) ++ List.replicate (3 - (lg_sl ([.ref (adr a0), .int x1])).length) Slot.unset).toArray = ls at hl ⊢
  have hl : lv_has ls 3 [(0, .ref (adr a0)), (1, .int x1)] := hl
  unfold m_X11_belongs at h
  have hin8 : ∀ w ∈ u_ws RX8 TX8 4, w ∈ wsX11_belongs := by decide +kernel
  have hin11 : ∀ w ∈ u_ws RX11 TX11 11, w ∈ wsX11_belongs := by decide +kernel
  refine lv_iload_n hx hb dX11_belongs_0 rfl (lv_at hl 1 rfl) ?_
  obtain ⟨v1_1201, hc1_1203, h⟩ := sm_bd h
  refine sm_ci (va_runS (As := [.int x1]) (rest := []) ⟨hx, hb, hml, hown, hts⟩ (k_X11_isSlot l D cA adr hJ x1  M v1_1201 hc1_1203) (va_cwS 1 hts gX11_belongs_X11_isSlot rfl rfl rfl (by decide +kernel) ⟨Nat.le_of_ble_eq_true rfl, Nat.le_of_ble_eq_true rfl⟩) ⟨smPc_bl, smPc_in [.int x1] hE hP⟩ rfl rfl hl.1 rfl (lv_room (Nat.le_of_ble_eq_true rfl)) dX11_belongs_1 ⟨Nat.zero_le _, Nat.zero_le _⟩) hS (fun H locs hP hS => ?_)
  refine lv_if_ne (tgt := 9) hx hb dX11_belongs_4 (by decide) (fun c4_1204 => ?_) (fun c4_1204 => ?_)
  · rw [if_neg c4_1204] at h
    refine lv_aload_n hx hb dX11_belongs_9 rfl (lv_at hl 0 rfl) ?_
    refine sm_get (ci := 11) (C := RX11) (T := TX11) (N := 11) (v := .ref (adr (a0 + 12))) hx hb hts hin11 hown hE hP ha0 rfl rfl 3 (by decide) (hts (.fieldLink RX11 26 "OrderMover" "slots" "[LOrderMover$Slot;") (by decide +kernel)) (fun _ h9 => h9) rfl dX11_belongs_10 ?_
    refine lv_iload_n hx hb dX11_belongs_13 rfl (lv_at hl 1 rfl) ?_
    obtain ⟨c14_1205, h⟩ := sm_ck h
    refine sm_aald24 hx hb hE hP (t11_3 ha0) c14_1205 dX11_belongs_14 ?_
    refine lv_iconst (v := (1 : Int32)) hx hb dX11_belongs_15 (by decide) ?_
    obtain ⟨v16_1206, hc16_1208, h⟩ := sm_bd h
    refine sm_ci (va_runV (As := [.int (1 : Int32)]) (rest := []) ⟨hx, hb, hml, hown, hts⟩ (k_X8_findWanting l D cA adr hJ ((a0 + 12) + 1 + 20 * (x1).toNatClampNeg) (1 : Int32) (te24 (t11_3 ha0) c14_1205) M v16_1206 hc16_1208) (cwV 1 hts gX11_belongs_X8_findWanting rfl rfl rfl (by decide +kernel) ⟨Nat.le_of_ble_eq_true rfl, Nat.le_of_ble_eq_true rfl⟩) ⟨smPc_bl, smRv hE hP (te24 (t11_3 ha0) c14_1205) rfl (ci := 8) (q := (RX8, TX8, 4)) rfl, smPc_in [.ref (adr ((a0 + 12) + 1 + 20 * (x1).toNatClampNeg)), .int (1 : Int32)] hE hP⟩ rfl rfl hl.1 rfl (lv_room (Nat.le_of_ble_eq_true rfl)) dX11_belongs_16 ⟨Nat.zero_le _, Nat.zero_le _⟩) hS (fun H locs hP hS => ?_)
    refine lv_istore_n (lv' := [(2, .int v16_1206), (0, .ref (adr a0)), (1, .int x1)]) hx hb dX11_belongs_19 rfl hl (by decide) rfl (fun ls hl => ?_)
    refine lv_iload_n hx hb dX11_belongs_20 rfl (lv_at hl 0 rfl) ?_
    refine lv_if_eq (tgt := 26) hx hb dX11_belongs_21 (by decide) (fun c21_1209 => ?_) (fun c21_1209 => ?_)
    · rw [if_pos c21_1209] at h
      refine lv_aload_n hx hb dX11_belongs_26 rfl (lv_at hl 1 rfl) ?_
      refine lv_aload_n hx hb dX11_belongs_27 rfl (lv_at hl 1 rfl) ?_
      refine sm_get (ci := 11) (C := RX11) (T := TX11) (N := 11) (v := .ref (adr (a0 + 12))) hx hb hts hin11 hown hE hP ha0 rfl rfl 3 (by decide) (hts (.fieldLink RX11 26 "OrderMover" "slots" "[LOrderMover$Slot;") (by decide +kernel)) (fun _ h9 => h9) rfl dX11_belongs_28 ?_
      refine lv_iload_n hx hb dX11_belongs_31 rfl (lv_at hl 2 rfl) ?_
      obtain ⟨c32_1210, h⟩ := sm_ck h
      refine sm_aald24 hx hb hE hP (t11_3 ha0) c32_1210 dX11_belongs_32 ?_
      refine sm_get (ci := 8) (C := RX8) (T := TX8) (N := 4) (v := .ref (adr (((a0 + 12) + 1 + 20 * (x1).toNatClampNeg) + 1))) hx hb hts hin8 hown hE hP (te24 (t11_3 ha0) c32_1210) rfl rfl 1 (by decide) (hts (.fieldLink RX11 255 "OrderMover$Slot" "polynomial" "LOrderMover$Polynomial;") (by decide +kernel)) (fun _ h9 => h9) rfl dX11_belongs_33 ?_
      obtain ⟨M36_1212, hc36_1213, h⟩ := sm_bd h
      refine sm_cv (va_runV (As := [.ref (adr (((a0 + 12) + 1 + 20 * (x1).toNatClampNeg) + 1))]) (rest := []) ⟨hx, hb, hml, hown, hts⟩ (k_X11_sumVectors l D cA adr hJ a0 (((a0 + 12) + 1 + 20 * (x1).toNatClampNeg) + 1) ha0 (t8_1 (te24 (t11_3 ha0) c32_1210)) M M36_1212 hc36_1213) (cwV 1 hts gX11_belongs_X11_sumVectors rfl rfl rfl (by decide +kernel) ⟨Nat.le_of_ble_eq_true rfl, Nat.le_of_ble_eq_true rfl⟩) ⟨smPc_bl, smRv hE hP ha0 rfl (ci := 11) (q := (RX11, TX11, 11)) rfl, smPc_in [.ref (adr a0), .ref (adr (((a0 + 12) + 1 + 20 * (x1).toNatClampNeg) + 1))] hE hP⟩ rfl rfl hl.1 rfl (lv_room (Nat.le_of_ble_eq_true rfl)) dX11_belongs_36 ⟨Nat.zero_le _, Nat.zero_le _⟩) hS (fun H locs hP hS => ?_)
      refine lv_aload_n hx hb dX11_belongs_39 rfl (lv_at hl 1 rfl) ?_
      refine sm_get (ci := 11) (C := RX11) (T := TX11) (N := 11) (v := .ref (adr (a0 + 505))) hx hb hts hin11 hown hE hP ha0 rfl rfl 9 (by decide) (hts (.fieldLink RX11 64 "OrderMover" "sum" "[I") (by decide +kernel)) (fun _ h9 => h9) rfl dX11_belongs_40 ?_
      obtain ⟨v43_1214, hc43_1216, h⟩ := sm_bd h
      refine sm_ci (va_runS (As := [.ref (adr (a0 + 505))]) (rest := []) ⟨hx, hb, hml, hown, hts⟩ (k_X11_firstNotZero l D cA adr hJ (a0 + 505) (t11_9 ha0) M36_1212 v43_1214 hc43_1216) (va_cwS 1 hts gX11_belongs_X11_firstNotZero rfl rfl rfl (by decide +kernel) ⟨Nat.le_of_ble_eq_true rfl, Nat.le_of_ble_eq_true rfl⟩) ⟨smPc_bl, smPc_in [.ref (adr (a0 + 505))] hE hP⟩ rfl rfl hl.1 rfl (lv_room (Nat.le_of_ble_eq_true rfl)) dX11_belongs_43 ⟨Nat.zero_le _, Nat.zero_le _⟩) hS (fun H locs hP hS => ?_)
      refine lv_if_ge (tgt := 53) hx hb dX11_belongs_46 (by decide) (fun c46_1217 => ?_) (fun c46_1217 => ?_)
      · rw [if_pos c46_1217] at h
        refine lv_iconst (v := (0 : Int32)) hx hb dX11_belongs_53 (by decide) ?_
        obtain ⟨v54_1218, hc54_1220, h⟩ := sm_bd h
        refine sm_ci (va_runS (As := [.int (0 : Int32)]) (rest := []) ⟨hx, hb, hml, hown, hts⟩ (k_X11_asAnswer l D cA adr hJ (0 : Int32)  M36_1212 v54_1218 hc54_1220) (va_cwS 1 hts gX11_belongs_X11_asAnswer rfl rfl rfl (by decide +kernel) ⟨Nat.le_of_ble_eq_true rfl, Nat.le_of_ble_eq_true rfl⟩) ⟨smPc_bl, smPc_in [.int (0 : Int32)] hE hP⟩ rfl rfl hl.1 rfl (lv_room (Nat.le_of_ble_eq_true rfl)) dX11_belongs_54 ⟨Nat.zero_le _, Nat.zero_le _⟩) hS (fun H locs hP hS => ?_)
        cases h
        exact sm_iret hx hb hr hlocks hP hS dX11_belongs_57
      · rw [if_neg c46_1217] at h
        refine lv_iconst (v := (1 : Int32)) hx hb dX11_belongs_49 (by decide) ?_
        refine lv_goto (tgt := 54) hx hb dX11_belongs_50 (by decide) ?_
        obtain ⟨v54_1221, hc54_1223, h⟩ := sm_bd h
        refine sm_ci (va_runS (As := [.int (1 : Int32)]) (rest := []) ⟨hx, hb, hml, hown, hts⟩ (k_X11_asAnswer l D cA adr hJ (1 : Int32)  M36_1212 v54_1221 hc54_1223) (va_cwS 1 hts gX11_belongs_X11_asAnswer rfl rfl rfl (by decide +kernel) ⟨Nat.le_of_ble_eq_true rfl, Nat.le_of_ble_eq_true rfl⟩) ⟨smPc_bl, smPc_in [.int (1 : Int32)] hE hP⟩ rfl rfl hl.1 rfl (lv_room (Nat.le_of_ble_eq_true rfl)) dX11_belongs_54 ⟨Nat.zero_le _, Nat.zero_le _⟩) hS (fun H locs hP hS => ?_)
        cases h
        exact sm_iret hx hb hr hlocks hP hS dX11_belongs_57
    · rw [if_neg c21_1209] at h
      refine lv_iload_n hx hb dX11_belongs_24 rfl (lv_at hl 0 rfl) ?_
      cases h
      exact sm_iret hx hb hr hlocks hP hS dX11_belongs_25
  · rw [if_pos c4_1204] at h
    refine lv_iconst (v := (-1 : Int32)) hx hb dX11_belongs_7 (by decide) ?_
    cases h
    exact sm_iret hx hb hr hlocks hP hS dX11_belongs_8
set_option maxHeartbeats 4000000 in
set_option maxRecDepth 100000 in
theorem k_X11_currentIdeal (l : Launch) (D : va_G) (cA : Nat → ClassId) (adr : Nat → Nat) (hJ : smJ 1 adr) (a0 : Nat) (ha0 : smT 1 a0 11) (M : smM) (v1 : Nat) (M1 : smM) (h : m_X11_currentIdeal a0 M = some (v1, M1)) : Met l yX11_currentIdeal wsX11_currentIdeal ({ frames := 5, cells := 0, slots := 0, locals := 123 }) (smPc D cA 1 adr M [.ref (adr a0)]) (smQr D cA 1 adr M1 v1 2) 0 0 (smA 1 adr) := by
  refine Met.ofW (cc := cX11_currentIdeal) (maxL := 1) (ret := (some (.object "OrderMover$Ideal"))) (by decide) rfl ?_
  intro p e s m args below meth c s₁ B hml hv
  obtain ⟨rfl, hE, hP⟩ := hv
  have hx := B.exec
  have hb := B.bytes
  have hr := B.returns
  have hts := atoms_spec (ws := wsX11_currentIdeal) B.pre
  have hown : s.vm.findClass RX11 = some m.cls := findClass_of_methodNamed B.named
  have hlocks := B.notSynchronized
  have hS : va_S (smA 1 adr) s.heap s.heap [] := va_S.rf
  have hP : smP D cA 1 adr M s.heap := hP
  have hl := lv_entry ([.ref (adr a0)]) (n := 1) (Nat.le_of_ble_eq_true rfl)
  rw [lg_entry_eq]
  generalize (lg_sl ([.ref (adr a0)]) ++ List.replicate (1 - (lg_sl ([.ref (adr a0)])).length) Slot.unset).toArray = ls at hl ⊢
  have hl : lv_has ls 1 [(0, .ref (adr a0))] := hl
  unfold m_X11_currentIdeal at h
  have hin11 : ∀ w ∈ u_ws RX11 TX11 11, w ∈ wsX11_currentIdeal := by decide +kernel
  refine lv_aload_n hx hb dX11_currentIdeal_0 rfl (lv_at hl 0 rfl) ?_
  refine sm_get (ci := 11) (C := RX11) (T := TX11) (N := 11) (v := .ref (adr (a0 + 93))) hx hb hts hin11 hown hE hP ha0 rfl rfl 4 (by decide) (hts (.fieldLink RX11 33 "OrderMover" "ideal" "LOrderMover$Ideal;") (by decide +kernel)) (fun _ h9 => h9) rfl dX11_currentIdeal_1 ?_
  refine lv_aload_n hx hb dX11_currentIdeal_4 rfl (lv_at hl 0 rfl) ?_
  refine sm_get (ci := 11) (C := RX11) (T := TX11) (N := 11) (v := .ref (adr (a0 + 1))) hx hb hts hin11 hown hE hP ha0 rfl rfl 0 (by decide) (hts (.fieldLink RX11 12 "OrderMover" "setting" "LOrderMover$Setting;") (by decide +kernel)) (fun _ h9 => h9) rfl dX11_currentIdeal_5 ?_
  obtain ⟨M8_1225, hc8_1226, h⟩ := sm_bd h
  refine sm_cv (va_runV (As := [.ref (adr (a0 + 1))]) (rest := []) ⟨hx, hb, hml, hown, hts⟩ (k_X2_bringUpToDate l D cA adr hJ (a0 + 93) (a0 + 1) (t11_4 ha0) (t11_0 ha0) M M8_1225 hc8_1226) (cwV 1 hts gX11_currentIdeal_X2_bringUpToDate rfl rfl rfl (by decide +kernel) ⟨Nat.le_of_ble_eq_true rfl, Nat.le_of_ble_eq_true rfl⟩) ⟨smPc_bl, smRv hE hP (t11_4 ha0) rfl (ci := 2) (q := (RX2, TX2, 9)) rfl, smPc_in [.ref (adr (a0 + 93)), .ref (adr (a0 + 1))] hE hP⟩ rfl rfl hl.1 rfl (lv_room (Nat.le_of_ble_eq_true rfl)) dX11_currentIdeal_8 ⟨Nat.zero_le _, Nat.zero_le _⟩) hS (fun H locs hP hS => ?_)
  refine lv_aload_n hx hb dX11_currentIdeal_11 rfl (lv_at hl 0 rfl) ?_
  refine sm_get (ci := 11) (C := RX11) (T := TX11) (N := 11) (v := .ref (adr (a0 + 93))) hx hb hts hin11 hown hE hP ha0 rfl rfl 4 (by decide) (hts (.fieldLink RX11 33 "OrderMover" "ideal" "LOrderMover$Ideal;") (by decide +kernel)) (fun _ h9 => h9) rfl dX11_currentIdeal_12 ?_
  cases h
  exact sm_aret hx hb hr (by first | exact Or.inl ⟨_, rfl⟩ | exact Or.inr ⟨_, rfl⟩) hlocks (t11_4 ha0) hP hS dX11_currentIdeal_15
set_option maxHeartbeats 4000000 in
set_option maxRecDepth 100000 in
theorem k_X11_countSlots (l : Launch) (D : va_G) (cA : Nat → ClassId) (adr : Nat → Nat) (hJ : smJ 1 adr) (a0 : Nat) (x1 : Int32) (ha0 : smT 1 a0 11) (M : smM) (v1 : Int32) (h : m_X11_countSlots a0 x1 M = some v1) : Met l yX11_countSlots wsX11_countSlots ({ frames := 0, cells := 0, slots := 0, locals := 0 }) (smPc D cA 1 adr M [.ref (adr a0), .int x1]) (smQi D cA 1 adr M v1) 0 0 (smA 1 adr) := by
  refine Met.ofW (cc := cX11_countSlots) (maxL := 4) (ret := (some .int)) (by decide) rfl ?_
  intro p e s m args below meth c s₁ B hml hv
  obtain ⟨rfl, hE, hP⟩ := hv
  have hx := B.exec
  have hb := B.bytes
  have hr := B.returns
  have hts := atoms_spec (ws := wsX11_countSlots) B.pre
  have hown : s.vm.findClass RX11 = some m.cls := findClass_of_methodNamed B.named
  have hlocks := B.notSynchronized
  have hS : va_S (smA 1 adr) s.heap s.heap [] := va_S.rf
  have hP : smP D cA 1 adr M s.heap := hP
  have hl := lv_entry ([.ref (adr a0), .int x1]) (n := 4) (Nat.le_of_ble_eq_true rfl)
  rw [lg_entry_eq]
  generalize (lg_sl ([.ref (adr a0), .int x1]) ++ List.replicate (4 - (lg_sl ([.ref (adr a0), .int x1])).length) Slot.unset).toArray = ls at hl ⊢
  have hl : lv_has ls 4 [(0, .ref (adr a0)), (1, .int x1)] := hl
  unfold m_X11_countSlots at h
  have hin8 : ∀ w ∈ u_ws RX8 TX8 4, w ∈ wsX11_countSlots := by decide +kernel
  have hin11 : ∀ w ∈ u_ws RX11 TX11 11, w ∈ wsX11_countSlots := by decide +kernel
  refine lv_iconst (v := (0 : Int32)) hx hb dX11_countSlots_0 (by decide) ?_
  refine lv_istore_n (lv' := [(2, .int (0 : Int32)), (0, .ref (adr a0)), (1, .int x1)]) hx hb dX11_countSlots_1 rfl hl (by decide) rfl (fun ls hl => ?_)
  refine lv_iconst (v := (0 : Int32)) hx hb dX11_countSlots_2 (by decide) ?_
  refine lv_istore_n (lv' := [(3, .int (0 : Int32)), (2, .int (0 : Int32)), (0, .ref (adr a0)), (1, .int x1)]) hx hb dX11_countSlots_3 rfl hl (by decide) rfl (fun ls hl => ?_)
  refine sm_lp (b := fun rc q => m_X11_countSlots_b4 a0 x1 M rc q.1 q.2) (P := fun (q : Int32 × Int32) H locs ls => smP D cA 1 adr M H ∧ va_S (smA 1 adr) s.heap H locs ∧ lv_has ls 4 [(0, .ref (adr a0)), (1, .int x1), (2, .int q.1), (3, .int q.2)]) (pc := 4) ?_ _ _ _ _ _ h ⟨hP, hS, lv_sub hl [2, 3, 1, 0] rfl⟩
  intro rc4_1229 ih4_1230 q H locs ls h hI
  obtain ⟨x2_4_1227, x3_4_1228⟩ := q
  obtain ⟨hP, hS, hl⟩ := hI
  have hP : smP D cA 1 adr M H := hP
  have hl : lv_has ls 4 [(0, .ref (adr a0)), (1, .int x1), (2, .int x2_4_1227), (3, .int x3_4_1228)] := hl
  have h : m_X11_countSlots_b4 a0 x1 M rc4_1229 x2_4_1227 x3_4_1228 = some _ := h
  unfold m_X11_countSlots_b4 at h
  refine lv_iload_n hx hb dX11_countSlots_4 rfl (lv_at hl 3 rfl) ?_
  refine lv_iconst (v := (4 : Int32)) hx hb dX11_countSlots_5 (by decide) ?_
  refine lv_icmp_ge (tgt := 31) hx hb dX11_countSlots_6 (by decide) (fun c6_1231 => ?_) (fun c6_1231 => ?_)
  · rw [if_pos c6_1231] at h
    refine lv_iload_n hx hb dX11_countSlots_31 rfl (lv_at hl 2 rfl) ?_
    cases h
    exact sm_iret hx hb hr hlocks hP hS dX11_countSlots_32
  · rw [if_neg c6_1231] at h
    refine lv_aload_n hx hb dX11_countSlots_9 rfl (lv_at hl 0 rfl) ?_
    refine sm_get (ci := 11) (C := RX11) (T := TX11) (N := 11) (v := .ref (adr (a0 + 12))) hx hb hts hin11 hown hE hP ha0 rfl rfl 3 (by decide) (hts (.fieldLink RX11 26 "OrderMover" "slots" "[LOrderMover$Slot;") (by decide +kernel)) (fun _ h9 => h9) rfl dX11_countSlots_10 ?_
    refine lv_iload_n hx hb dX11_countSlots_13 rfl (lv_at hl 3 rfl) ?_
    obtain ⟨c14_1232, h⟩ := sm_ck h
    refine sm_aald24 hx hb hE hP (t11_3 ha0) c14_1232 dX11_countSlots_14 ?_
    refine sm_get (ci := 8) (C := RX8) (T := TX8) (N := 4) (v := .int (M ((a0 + 12) + 1 + 20 * (x3_4_1228).toNatClampNeg) 0)) hx hb hts hin8 hown hE hP (te24 (t11_3 ha0) c14_1232) rfl rfl 0 (by decide) (hts (.fieldLink RX11 252 "OrderMover$Slot" "holds" "I") (by decide +kernel)) (fun _ h9 => h9) rfl dX11_countSlots_15 ?_
    refine lv_iload_n hx hb dX11_countSlots_18 rfl (lv_at hl 1 rfl) ?_
    refine lv_icmp_ne (tgt := 25) hx hb dX11_countSlots_19 (by decide) (fun c19_1233 => ?_) (fun c19_1233 => ?_)
    · rw [if_neg c19_1233] at h
      refine lv_iinc (v := (x3_4_1228 + (1 : Int32))) (lv' := [(3, .int (x3_4_1228 + (1 : Int32))), (0, .ref (adr a0)), (1, .int x1), (2, .int x2_4_1227)]) hx hb dX11_countSlots_25 hl (k := 3) rfl (congrArg (fun z => x3_4_1228 + z) (by decide)) (by decide) rfl (fun ls hl => ?_)
      refine lv_goto (tgt := 4) hx hb dX11_countSlots_28 (by decide) ?_
      exact ih4_1230 (x2_4_1227, (x3_4_1228 + (1 : Int32))) _ _ _ h ⟨hP, hS, lv_sub hl [1, 2, 3, 0] rfl⟩
    · rw [if_pos c19_1233] at h
      refine lv_iinc (v := (x2_4_1227 + (1 : Int32))) (lv' := [(2, .int (x2_4_1227 + (1 : Int32))), (0, .ref (adr a0)), (1, .int x1), (3, .int x3_4_1228)]) hx hb dX11_countSlots_22 hl (k := 2) rfl (congrArg (fun z => x2_4_1227 + z) (by decide)) (by decide) rfl (fun ls hl => ?_)
      refine lv_iinc (v := (x3_4_1228 + (1 : Int32))) (lv' := [(3, .int (x3_4_1228 + (1 : Int32))), (2, .int (x2_4_1227 + (1 : Int32))), (0, .ref (adr a0)), (1, .int x1)]) hx hb dX11_countSlots_25 hl (k := 3) rfl (congrArg (fun z => x3_4_1228 + z) (by decide)) (by decide) rfl (fun ls hl => ?_)
      refine lv_goto (tgt := 4) hx hb dX11_countSlots_28 (by decide) ?_
      exact ih4_1230 ((x2_4_1227 + (1 : Int32)), (x3_4_1228 + (1 : Int32))) _ _ _ h ⟨hP, hS, lv_sub hl [2, 3, 1, 0] rfl⟩
set_option maxHeartbeats 4000000 in
set_option maxRecDepth 100000 in
theorem k_X11_count (l : Launch) (D : va_G) (cA : Nat → ClassId) (adr : Nat → Nat) (hJ : smJ 1 adr) (a0 : Nat) (x1 : Int32) (ha0 : smT 1 a0 11) (M : smM) (v1 : Int32) (M1 : smM) (h : m_X11_count a0 x1 M = some (v1, M1)) : Met l yX11_count wsX11_count ({ frames := 6, cells := 0, slots := 0, locals := 143 }) (smPc D cA 1 adr M [.ref (adr a0), .int x1]) (smQi D cA 1 adr M1 v1) 0 0 (smA 1 adr) := by
  refine Met.ofW (cc := cX11_count) (maxL := 2) (ret := (some .int)) (by decide) rfl ?_
  intro p e s m args below meth c s₁ B hml hv
  obtain ⟨rfl, hE, hP⟩ := hv
  have hx := B.exec
  have hb := B.bytes
  have hr := B.returns
  have hts := atoms_spec (ws := wsX11_count) B.pre
  have hown : s.vm.findClass RX11 = some m.cls := findClass_of_methodNamed B.named
  have hlocks := B.notSynchronized
  have hS : va_S (smA 1 adr) s.heap s.heap [] := va_S.rf
  have hP : smP D cA 1 adr M s.heap := hP
  have hl := lv_entry ([.ref (adr a0), .int x1]) (n := 2) (Nat.le_of_ble_eq_true rfl)
  rw [lg_entry_eq]
  generalize (lg_sl ([.ref (adr a0), .int x1]) ++ List.replicate (2 - (lg_sl ([.ref (adr a0), .int x1])).length) Slot.unset).toArray = ls at hl ⊢
  have hl : lv_has ls 2 [(0, .ref (adr a0)), (1, .int x1)] := hl
  unfold m_X11_count at h
  have hin7 : ∀ w ∈ u_ws RX7 TX7 7, w ∈ wsX11_count := by decide +kernel
  have hin11 : ∀ w ∈ u_ws RX11 TX11 11, w ∈ wsX11_count := by decide +kernel
  refine lv_iload_n hx hb dX11_count_0 rfl (lv_at hl 1 rfl) ?_
  by_cases c1_1234 : x1 = (0 : Int32)
  · rw [if_pos c1_1234] at h
    refine lv_tableIn (tgt := 60) hx hb dX11_count_1 (by rw [c1_1234]; decide) (by rw [c1_1234]; decide) (by rw [c1_1234]; rfl) (by decide) ?_
    refine lv_aload_n hx hb dX11_count_60 rfl (lv_at hl 0 rfl) ?_
    refine sm_get (ci := 11) (C := RX11) (T := TX11) (N := 11) (v := .ref (adr (a0 + 1))) hx hb hts hin11 hown hE hP ha0 rfl rfl 0 (by decide) (hts (.fieldLink RX11 12 "OrderMover" "setting" "LOrderMover$Setting;") (by decide +kernel)) (fun _ h9 => h9) rfl dX11_count_61 ?_
    refine sm_get (ci := 7) (C := RX7) (T := TX7) (N := 7) (v := .int (M (a0 + 1) 0)) hx hb hts hin7 hown hE hP (t11_0 ha0) rfl rfl 0 (by decide) (hts (.fieldLink RX11 75 "OrderMover$Setting" "p" "I") (by decide +kernel)) (fun _ h9 => h9) rfl dX11_count_64 ?_
    cases h
    exact sm_iret hx hb hr hlocks hP hS dX11_count_67
  rw [if_neg c1_1234] at h
  by_cases c1_1235 : x1 = (1 : Int32)
  · rw [if_pos c1_1235] at h
    refine lv_tableIn (tgt := 68) hx hb dX11_count_1 (by rw [c1_1235]; decide) (by rw [c1_1235]; decide) (by rw [c1_1235]; rfl) (by decide) ?_
    refine lv_aload_n hx hb dX11_count_68 rfl (lv_at hl 0 rfl) ?_
    refine sm_get (ci := 11) (C := RX11) (T := TX11) (N := 11) (v := .ref (adr (a0 + 1))) hx hb hts hin11 hown hE hP ha0 rfl rfl 0 (by decide) (hts (.fieldLink RX11 12 "OrderMover" "setting" "LOrderMover$Setting;") (by decide +kernel)) (fun _ h9 => h9) rfl dX11_count_69 ?_
    refine sm_get (ci := 7) (C := RX7) (T := TX7) (N := 7) (v := .int (M (a0 + 1) 1)) hx hb hts hin7 hown hE hP (t11_0 ha0) rfl rfl 1 (by decide) (hts (.fieldLink RX11 125 "OrderMover$Setting" "a" "I") (by decide +kernel)) (fun _ h9 => h9) rfl dX11_count_72 ?_
    cases h
    exact sm_iret hx hb hr hlocks hP hS dX11_count_75
  rw [if_neg c1_1235] at h
  by_cases c1_1236 : x1 = (2 : Int32)
  · rw [if_pos c1_1236] at h
    refine lv_tableIn (tgt := 76) hx hb dX11_count_1 (by rw [c1_1236]; decide) (by rw [c1_1236]; decide) (by rw [c1_1236]; rfl) (by decide) ?_
    refine lv_aload_n hx hb dX11_count_76 rfl (lv_at hl 0 rfl) ?_
    refine sm_get (ci := 11) (C := RX11) (T := TX11) (N := 11) (v := .ref (adr (a0 + 1))) hx hb hts hin11 hown hE hP ha0 rfl rfl 0 (by decide) (hts (.fieldLink RX11 12 "OrderMover" "setting" "LOrderMover$Setting;") (by decide +kernel)) (fun _ h9 => h9) rfl dX11_count_77 ?_
    refine sm_get (ci := 7) (C := RX7) (T := TX7) (N := 7) (v := .int (M (a0 + 1) 2)) hx hb hts hin7 hown hE hP (t11_0 ha0) rfl rfl 2 (by decide) (hts (.fieldLink RX11 128 "OrderMover$Setting" "b" "I") (by decide +kernel)) (fun _ h9 => h9) rfl dX11_count_80 ?_
    cases h
    exact sm_iret hx hb hr hlocks hP hS dX11_count_83
  rw [if_neg c1_1236] at h
  by_cases c1_1237 : x1 = (3 : Int32)
  · rw [if_pos c1_1237] at h
    refine lv_tableIn (tgt := 84) hx hb dX11_count_1 (by rw [c1_1237]; decide) (by rw [c1_1237]; decide) (by rw [c1_1237]; rfl) (by decide) ?_
    refine lv_aload_n hx hb dX11_count_84 rfl (lv_at hl 0 rfl) ?_
    refine sm_get (ci := 11) (C := RX11) (T := TX11) (N := 11) (v := .ref (adr (a0 + 1))) hx hb hts hin11 hown hE hP ha0 rfl rfl 0 (by decide) (hts (.fieldLink RX11 12 "OrderMover" "setting" "LOrderMover$Setting;") (by decide +kernel)) (fun _ h9 => h9) rfl dX11_count_85 ?_
    obtain ⟨v88_1238, hc88_1240, h⟩ := sm_bd h
    refine sm_ci (va_runV (As := []) (rest := []) ⟨hx, hb, hml, hown, hts⟩ (k_X7_dimension l D cA adr hJ (a0 + 1) (t11_0 ha0) M v88_1238 hc88_1240) (cwV 0 hts gX11_count_X7_dimension rfl rfl rfl (by decide +kernel) ⟨Nat.le_of_ble_eq_true rfl, Nat.le_of_ble_eq_true rfl⟩) ⟨smPc_bl, smRv hE hP (t11_0 ha0) rfl (ci := 7) (q := (RX7, TX7, 7)) rfl, smPc_in [.ref (adr (a0 + 1))] hE hP⟩ rfl rfl hl.1 rfl (lv_room (Nat.le_of_ble_eq_true rfl)) dX11_count_88 ⟨Nat.zero_le _, Nat.zero_le _⟩) hS (fun H locs hP hS => ?_)
    cases h
    exact sm_iret hx hb hr hlocks hP hS dX11_count_91
  rw [if_neg c1_1237] at h
  by_cases c1_1241 : x1 = (4 : Int32)
  · rw [if_pos c1_1241] at h
    refine lv_tableIn (tgt := 92) hx hb dX11_count_1 (by rw [c1_1241]; decide) (by rw [c1_1241]; decide) (by rw [c1_1241]; rfl) (by decide) ?_
    refine lv_aload_n hx hb dX11_count_92 rfl (lv_at hl 0 rfl) ?_
    refine sm_get (ci := 11) (C := RX11) (T := TX11) (N := 11) (v := .ref (adr (a0 + 1))) hx hb hts hin11 hown hE hP ha0 rfl rfl 0 (by decide) (hts (.fieldLink RX11 12 "OrderMover" "setting" "LOrderMover$Setting;") (by decide +kernel)) (fun _ h9 => h9) rfl dX11_count_93 ?_
    refine sm_get (ci := 7) (C := RX7) (T := TX7) (N := 7) (v := .int (M (a0 + 1) 3)) hx hb hts hin7 hown hE hP (t11_0 ha0) rfl rfl 3 (by decide) (hts (.fieldLink RX11 114 "OrderMover$Setting" "u" "I") (by decide +kernel)) (fun _ h9 => h9) rfl dX11_count_96 ?_
    cases h
    exact sm_iret hx hb hr hlocks hP hS dX11_count_99
  rw [if_neg c1_1241] at h
  by_cases c1_1242 : x1 = (5 : Int32)
  · rw [if_pos c1_1242] at h
    refine lv_tableIn (tgt := 100) hx hb dX11_count_1 (by rw [c1_1242]; decide) (by rw [c1_1242]; decide) (by rw [c1_1242]; rfl) (by decide) ?_
    refine lv_aload_n hx hb dX11_count_100 rfl (lv_at hl 0 rfl) ?_
    refine sm_get (ci := 11) (C := RX11) (T := TX11) (N := 11) (v := .ref (adr (a0 + 1))) hx hb hts hin11 hown hE hP ha0 rfl rfl 0 (by decide) (hts (.fieldLink RX11 12 "OrderMover" "setting" "LOrderMover$Setting;") (by decide +kernel)) (fun _ h9 => h9) rfl dX11_count_101 ?_
    refine sm_get (ci := 7) (C := RX7) (T := TX7) (N := 7) (v := .int (M (a0 + 1) 4)) hx hb hts hin7 hown hE hP (t11_0 ha0) rfl rfl 4 (by decide) (hts (.fieldLink RX11 117 "OrderMover$Setting" "v" "I") (by decide +kernel)) (fun _ h9 => h9) rfl dX11_count_104 ?_
    cases h
    exact sm_iret hx hb hr hlocks hP hS dX11_count_107
  rw [if_neg c1_1242] at h
  by_cases c1_1243 : x1 = (6 : Int32)
  · rw [if_pos c1_1243] at h
    refine lv_tableIn (tgt := 108) hx hb dX11_count_1 (by rw [c1_1243]; decide) (by rw [c1_1243]; decide) (by rw [c1_1243]; rfl) (by decide) ?_
    refine lv_aload_n hx hb dX11_count_108 rfl (lv_at hl 0 rfl) ?_
    obtain ⟨v109_1244, M109_1245, hc109_1246, h⟩ := sm_bd2 h
    refine sm_cr (va_runV (As := []) (rest := []) ⟨hx, hb, hml, hown, hts⟩ (k_X11_currentIdeal l D cA adr hJ a0 ha0 M v109_1244 M109_1245 hc109_1246) (cwV 0 hts gX11_count_X11_currentIdeal rfl rfl rfl (by decide +kernel) ⟨Nat.le_of_ble_eq_true rfl, Nat.le_of_ble_eq_true rfl⟩) ⟨smPc_bl, smRv hE hP ha0 rfl (ci := 11) (q := (RX11, TX11, 11)) rfl, smPc_in [.ref (adr a0)] hE hP⟩ rfl rfl hl.1 rfl (lv_room (Nat.le_of_ble_eq_true rfl)) dX11_count_109 ⟨Nat.zero_le _, Nat.zero_le _⟩) hS (fun H locs hk109_1247 hP hS => ?_)
    obtain ⟨v112_1248, hc112_1250, h⟩ := sm_bd h
    refine sm_ci (va_runV (As := []) (rest := []) ⟨hx, hb, hml, hown, hts⟩ (k_X2_isPlain l D cA adr hJ v109_1244 hk109_1247 M109_1245 v112_1248 hc112_1250) (cwV 0 hts gX11_count_X2_isPlain rfl rfl rfl (by decide +kernel) ⟨Nat.le_of_ble_eq_true rfl, Nat.le_of_ble_eq_true rfl⟩) ⟨smPc_bl, smRv hE hP hk109_1247 rfl (ci := 2) (q := (RX2, TX2, 9)) rfl, smPc_in [.ref (adr v109_1244)] hE hP⟩ rfl rfl hl.1 rfl (lv_room (Nat.le_of_ble_eq_true rfl)) dX11_count_112 ⟨Nat.zero_le _, Nat.zero_le _⟩) hS (fun H locs hP hS => ?_)
    obtain ⟨v115_1251, hc115_1253, h⟩ := sm_bd h
    refine sm_ci (va_runS (As := [.int v112_1248]) (rest := []) ⟨hx, hb, hml, hown, hts⟩ (k_X11_asAnswer l D cA adr hJ v112_1248  M109_1245 v115_1251 hc115_1253) (va_cwS 1 hts gX11_count_X11_asAnswer rfl rfl rfl (by decide +kernel) ⟨Nat.le_of_ble_eq_true rfl, Nat.le_of_ble_eq_true rfl⟩) ⟨smPc_bl, smPc_in [.int v112_1248] hE hP⟩ rfl rfl hl.1 rfl (lv_room (Nat.le_of_ble_eq_true rfl)) dX11_count_115 ⟨Nat.zero_le _, Nat.zero_le _⟩) hS (fun H locs hP hS => ?_)
    cases h
    exact sm_iret hx hb hr hlocks hP hS dX11_count_118
  rw [if_neg c1_1243] at h
  by_cases c1_1254 : x1 = (7 : Int32)
  · rw [if_pos c1_1254] at h
    refine lv_tableIn (tgt := 119) hx hb dX11_count_1 (by rw [c1_1254]; decide) (by rw [c1_1254]; decide) (by rw [c1_1254]; rfl) (by decide) ?_
    refine lv_aload_n hx hb dX11_count_119 rfl (lv_at hl 0 rfl) ?_
    obtain ⟨v120_1255, M120_1256, hc120_1257, h⟩ := sm_bd2 h
    refine sm_cr (va_runV (As := []) (rest := []) ⟨hx, hb, hml, hown, hts⟩ (k_X11_currentIdeal l D cA adr hJ a0 ha0 M v120_1255 M120_1256 hc120_1257) (cwV 0 hts gX11_count_X11_currentIdeal rfl rfl rfl (by decide +kernel) ⟨Nat.le_of_ble_eq_true rfl, Nat.le_of_ble_eq_true rfl⟩) ⟨smPc_bl, smRv hE hP ha0 rfl (ci := 11) (q := (RX11, TX11, 11)) rfl, smPc_in [.ref (adr a0)] hE hP⟩ rfl rfl hl.1 rfl (lv_room (Nat.le_of_ble_eq_true rfl)) dX11_count_120 ⟨Nat.zero_le _, Nat.zero_le _⟩) hS (fun H locs hk120_1258 hP hS => ?_)
    obtain ⟨v123_1259, M123_1260, hc123_1261, h⟩ := sm_bd2 h
    refine sm_ci (va_runV (As := []) (rest := []) ⟨hx, hb, hml, hown, hts⟩ (k_X2_isRadical l D cA adr hJ v120_1255 hk120_1258 M120_1256 v123_1259 M123_1260 hc123_1261) (cwV 0 hts gX11_count_X2_isRadical rfl rfl rfl (by decide +kernel) ⟨Nat.le_of_ble_eq_true rfl, Nat.le_of_ble_eq_true rfl⟩) ⟨smPc_bl, smRv hE hP hk120_1258 rfl (ci := 2) (q := (RX2, TX2, 9)) rfl, smPc_in [.ref (adr v120_1255)] hE hP⟩ rfl rfl hl.1 rfl (lv_room (Nat.le_of_ble_eq_true rfl)) dX11_count_123 ⟨Nat.zero_le _, Nat.zero_le _⟩) hS (fun H locs hP hS => ?_)
    obtain ⟨v126_1262, hc126_1264, h⟩ := sm_bd h
    refine sm_ci (va_runS (As := [.int v123_1259]) (rest := []) ⟨hx, hb, hml, hown, hts⟩ (k_X11_asAnswer l D cA adr hJ v123_1259  M123_1260 v126_1262 hc126_1264) (va_cwS 1 hts gX11_count_X11_asAnswer rfl rfl rfl (by decide +kernel) ⟨Nat.le_of_ble_eq_true rfl, Nat.le_of_ble_eq_true rfl⟩) ⟨smPc_bl, smPc_in [.int v123_1259] hE hP⟩ rfl rfl hl.1 rfl (lv_room (Nat.le_of_ble_eq_true rfl)) dX11_count_126 ⟨Nat.zero_le _, Nat.zero_le _⟩) hS (fun H locs hP hS => ?_)
    cases h
    exact sm_iret hx hb hr hlocks hP hS dX11_count_129
  rw [if_neg c1_1254] at h
  by_cases c1_1265 : x1 = (8 : Int32)
  · rw [if_pos c1_1265] at h
    refine lv_tableIn (tgt := 130) hx hb dX11_count_1 (by rw [c1_1265]; decide) (by rw [c1_1265]; decide) (by rw [c1_1265]; rfl) (by decide) ?_
    refine lv_aload_n hx hb dX11_count_130 rfl (lv_at hl 0 rfl) ?_
    obtain ⟨v131_1266, M131_1267, hc131_1268, h⟩ := sm_bd2 h
    refine sm_cr (va_runV (As := []) (rest := []) ⟨hx, hb, hml, hown, hts⟩ (k_X11_currentIdeal l D cA adr hJ a0 ha0 M v131_1266 M131_1267 hc131_1268) (cwV 0 hts gX11_count_X11_currentIdeal rfl rfl rfl (by decide +kernel) ⟨Nat.le_of_ble_eq_true rfl, Nat.le_of_ble_eq_true rfl⟩) ⟨smPc_bl, smRv hE hP ha0 rfl (ci := 11) (q := (RX11, TX11, 11)) rfl, smPc_in [.ref (adr a0)] hE hP⟩ rfl rfl hl.1 rfl (lv_room (Nat.le_of_ble_eq_true rfl)) dX11_count_131 ⟨Nat.zero_le _, Nat.zero_le _⟩) hS (fun H locs hk131_1269 hP hS => ?_)
    refine lv_aload_n hx hb dX11_count_134 rfl (lv_at hl 0 rfl) ?_
    refine sm_get (ci := 11) (C := RX11) (T := TX11) (N := 11) (v := .ref (adr (a0 + 1))) hx hb hts hin11 hown hE hP ha0 rfl rfl 0 (by decide) (hts (.fieldLink RX11 12 "OrderMover" "setting" "LOrderMover$Setting;") (by decide +kernel)) (fun _ h9 => h9) rfl dX11_count_135 ?_
    obtain ⟨v138_1270, M138_1271, hc138_1272, h⟩ := sm_bd2 h
    refine sm_ci (va_runV (As := [.ref (adr (a0 + 1))]) (rest := []) ⟨hx, hb, hml, hown, hts⟩ (k_X2_countRoots l D cA adr hJ v131_1266 (a0 + 1) hk131_1269 (t11_0 ha0) M131_1267 v138_1270 M138_1271 hc138_1272) (cwV 1 hts gX11_count_X2_countRoots rfl rfl rfl (by decide +kernel) ⟨Nat.le_of_ble_eq_true rfl, Nat.le_of_ble_eq_true rfl⟩) ⟨smPc_bl, smRv hE hP hk131_1269 rfl (ci := 2) (q := (RX2, TX2, 9)) rfl, smPc_in [.ref (adr v131_1266), .ref (adr (a0 + 1))] hE hP⟩ rfl rfl hl.1 rfl (lv_room (Nat.le_of_ble_eq_true rfl)) dX11_count_138 ⟨Nat.zero_le _, Nat.zero_le _⟩) hS (fun H locs hP hS => ?_)
    cases h
    exact sm_iret hx hb hr hlocks hP hS dX11_count_141
  rw [if_neg c1_1265] at h
  by_cases c1_1273 : x1 = (9 : Int32)
  · rw [if_pos c1_1273] at h
    refine lv_tableIn (tgt := 142) hx hb dX11_count_1 (by rw [c1_1273]; decide) (by rw [c1_1273]; decide) (by rw [c1_1273]; rfl) (by decide) ?_
    refine lv_aload_n hx hb dX11_count_142 rfl (lv_at hl 0 rfl) ?_
    refine lv_iconst (v := (1 : Int32)) hx hb dX11_count_143 (by decide) ?_
    obtain ⟨v144_1274, hc144_1276, h⟩ := sm_bd h
    refine sm_ci (va_runV (As := [.int (1 : Int32)]) (rest := []) ⟨hx, hb, hml, hown, hts⟩ (k_X11_countSlots l D cA adr hJ a0 (1 : Int32) ha0 M v144_1274 hc144_1276) (cwV 1 hts gX11_count_X11_countSlots rfl rfl rfl (by decide +kernel) ⟨Nat.le_of_ble_eq_true rfl, Nat.le_of_ble_eq_true rfl⟩) ⟨smPc_bl, smRv hE hP ha0 rfl (ci := 11) (q := (RX11, TX11, 11)) rfl, smPc_in [.ref (adr a0), .int (1 : Int32)] hE hP⟩ rfl rfl hl.1 rfl (lv_room (Nat.le_of_ble_eq_true rfl)) dX11_count_144 ⟨Nat.zero_le _, Nat.zero_le _⟩) hS (fun H locs hP hS => ?_)
    cases h
    exact sm_iret hx hb hr hlocks hP hS dX11_count_147
  rw [if_neg c1_1273] at h
  by_cases c1_1277 : x1 = (10 : Int32)
  · rw [if_pos c1_1277] at h
    refine lv_tableIn (tgt := 148) hx hb dX11_count_1 (by rw [c1_1277]; decide) (by rw [c1_1277]; decide) (by rw [c1_1277]; rfl) (by decide) ?_
    refine lv_aload_n hx hb dX11_count_148 rfl (lv_at hl 0 rfl) ?_
    refine lv_iconst (v := (2 : Int32)) hx hb dX11_count_149 (by decide) ?_
    obtain ⟨v150_1278, hc150_1280, h⟩ := sm_bd h
    refine sm_ci (va_runV (As := [.int (2 : Int32)]) (rest := []) ⟨hx, hb, hml, hown, hts⟩ (k_X11_countSlots l D cA adr hJ a0 (2 : Int32) ha0 M v150_1278 hc150_1280) (cwV 1 hts gX11_count_X11_countSlots rfl rfl rfl (by decide +kernel) ⟨Nat.le_of_ble_eq_true rfl, Nat.le_of_ble_eq_true rfl⟩) ⟨smPc_bl, smRv hE hP ha0 rfl (ci := 11) (q := (RX11, TX11, 11)) rfl, smPc_in [.ref (adr a0), .int (2 : Int32)] hE hP⟩ rfl rfl hl.1 rfl (lv_room (Nat.le_of_ble_eq_true rfl)) dX11_count_150 ⟨Nat.zero_le _, Nat.zero_le _⟩) hS (fun H locs hP hS => ?_)
    cases h
    exact sm_iret hx hb hr hlocks hP hS dX11_count_153
  rw [if_neg c1_1277] at h
  have qc1_1234 := sm_ne (j := 0) c1_1234 (by decide)
  have qc1_1235 := sm_ne (j := 1) c1_1235 (by decide)
  have qc1_1236 := sm_ne (j := 2) c1_1236 (by decide)
  have qc1_1237 := sm_ne (j := 3) c1_1237 (by decide)
  have qc1_1241 := sm_ne (j := 4) c1_1241 (by decide)
  have qc1_1242 := sm_ne (j := 5) c1_1242 (by decide)
  have qc1_1243 := sm_ne (j := 6) c1_1243 (by decide)
  have qc1_1254 := sm_ne (j := 7) c1_1254 (by decide)
  have qc1_1265 := sm_ne (j := 8) c1_1265 (by decide)
  have qc1_1273 := sm_ne (j := 9) c1_1273 (by decide)
  have qc1_1277 := sm_ne (j := 10) c1_1277 (by decide)
  refine lv_tableOut (tgt := 154) hx hb dX11_count_1 (by omega) (by decide) ?_
  refine lv_iconst (v := (-1 : Int32)) hx hb dX11_count_154 (by decide) ?_
  cases h
  exact sm_iret hx hb hr hlocks hP hS dX11_count_155
