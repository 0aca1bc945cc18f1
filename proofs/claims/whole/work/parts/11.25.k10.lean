set_option maxHeartbeats 4000000 in
set_option maxRecDepth 100000 in
theorem k_X11_degree (l : Launch) (D : va_G) (cA : Nat → ClassId) (adr : Nat → Nat) (hJ : smJ 1 adr) (a0 : Nat) (x1 : Int32) (ha0 : smT 1 a0 11) (M : smM) (v1 : Int32) (h : m_X11_degree a0 x1 M = some v1) : Met l yX11_degree wsX11_degree ({ frames := 2, cells := 0, slots := 0, locals := 50 }) (smPc D cA 1 adr M [.ref (adr a0), .int x1]) (smQi D cA 1 adr M v1) 0 0 (smA 1 adr) := by
  refine Met.ofW (cc := cX11_degree) (maxL := 6) (ret := (some .int)) (by decide) rfl ?_
  intro p e s m args below meth c s₁ B hml hv
  obtain ⟨rfl, hE, hP⟩ := hv
  have hx := B.exec
  have hb := B.bytes
  have hr := B.returns
  have hts := atoms_spec (ws := wsX11_degree) B.pre
  have hown : s.vm.findClass RX11 = some m.cls := findClass_of_methodNamed B.named
  have hlocks := B.notSynchronized
  have hS : va_S (smA 1 adr) s.heap s.heap [] := va_S.rf
  have hP : smP D cA 1 adr M s.heap := hP
  have hl := lv_entry ([.ref (adr a0), .int x1]) (n := 6) (Nat.le_of_ble_eq_true rfl)
  rw [lg_entry_eq]
  generalize (lg_sl ([.ref (adr a0), .int x1]) ++ List.replicate (6 - (lg_sl ([.ref (adr a0), .int x1])).length) Slot.unset).toArray = ls at hl ⊢
  have hl : lv_has ls 6 [(0, .ref (adr a0)), (1, .int x1)] := hl
  unfold m_X11_degree at h
  have hin5 : ∀ w ∈ u_ws RX5 TX5 4, w ∈ wsX11_degree := by decide +kernel
  have hin8 : ∀ w ∈ u_ws RX8 TX8 4, w ∈ wsX11_degree := by decide +kernel
  have hin11 : ∀ w ∈ u_ws RX11 TX11 11, w ∈ wsX11_degree := by decide +kernel
  refine lv_iload_n hx hb dX11_degree_0 rfl (lv_at hl 1 rfl) ?_
  obtain ⟨v1_1281, hc1_1283, h⟩ := sm_bd h
  refine sm_ci (va_runS (As := [.int x1]) (rest := []) ⟨hx, hb, hml, hown, hts⟩ (k_X11_isSlot l D cA adr hJ x1  M v1_1281 hc1_1283) (va_cwS 1 hts gX11_degree_X11_isSlot rfl rfl rfl (by decide +kernel) ⟨Nat.le_of_ble_eq_true rfl, Nat.le_of_ble_eq_true rfl⟩) ⟨smPc_bl, smPc_in [.int x1] hE hP⟩ rfl rfl hl.1 rfl (lv_room (Nat.le_of_ble_eq_true rfl)) dX11_degree_1 ⟨Nat.zero_le _, Nat.zero_le _⟩) hS (fun H locs hP hS => ?_)
  refine lv_if_ne (tgt := 9) hx hb dX11_degree_4 (by decide) (fun c4_1284 => ?_) (fun c4_1284 => ?_)
  · rw [if_neg c4_1284] at h
    refine lv_aload_n hx hb dX11_degree_9 rfl (lv_at hl 0 rfl) ?_
    refine sm_get (ci := 11) (C := RX11) (T := TX11) (N := 11) (v := .ref (adr (a0 + 12))) hx hb hts hin11 hown hE hP ha0 rfl rfl 3 (by decide) (hts (.fieldLink RX11 26 "OrderMover" "slots" "[LOrderMover$Slot;") (by decide +kernel)) (fun _ h9 => h9) rfl dX11_degree_10 ?_
    refine lv_iload_n hx hb dX11_degree_13 rfl (lv_at hl 1 rfl) ?_
    obtain ⟨c14_1285, h⟩ := sm_ck h
    refine sm_aald24 hx hb hE hP (t11_3 ha0) c14_1285 dX11_degree_14 ?_
    refine lv_iconst (v := (1 : Int32)) hx hb dX11_degree_15 (by decide) ?_
    obtain ⟨v16_1286, hc16_1288, h⟩ := sm_bd h
    refine sm_ci (va_runV (As := [.int (1 : Int32)]) (rest := []) ⟨hx, hb, hml, hown, hts⟩ (k_X8_findWanting l D cA adr hJ ((a0 + 12) + 1 + 20 * (x1).toNatClampNeg) (1 : Int32) (te24 (t11_3 ha0) c14_1285) M v16_1286 hc16_1288) (cwV 1 hts gX11_degree_X8_findWanting rfl rfl rfl (by decide +kernel) ⟨Nat.le_of_ble_eq_true rfl, Nat.le_of_ble_eq_true rfl⟩) ⟨smPc_bl, smRv hE hP (te24 (t11_3 ha0) c14_1285) rfl (ci := 8) (q := (RX8, TX8, 4)) rfl, smPc_in [.ref (adr ((a0 + 12) + 1 + 20 * (x1).toNatClampNeg)), .int (1 : Int32)] hE hP⟩ rfl rfl hl.1 rfl (lv_room (Nat.le_of_ble_eq_true rfl)) dX11_degree_16 ⟨Nat.zero_le _, Nat.zero_le _⟩) hS (fun H locs hP hS => ?_)
    refine lv_istore_n (lv' := [(2, .int v16_1286), (0, .ref (adr a0)), (1, .int x1)]) hx hb dX11_degree_19 rfl hl (by decide) rfl (fun ls hl => ?_)
    refine lv_iload_n hx hb dX11_degree_20 rfl (lv_at hl 0 rfl) ?_
    refine lv_if_eq (tgt := 26) hx hb dX11_degree_21 (by decide) (fun c21_1289 => ?_) (fun c21_1289 => ?_)
    · rw [if_pos c21_1289] at h
      refine lv_aload_n hx hb dX11_degree_26 rfl (lv_at hl 1 rfl) ?_
      refine sm_get (ci := 11) (C := RX11) (T := TX11) (N := 11) (v := .ref (adr (a0 + 12))) hx hb hts hin11 hown hE hP ha0 rfl rfl 3 (by decide) (hts (.fieldLink RX11 26 "OrderMover" "slots" "[LOrderMover$Slot;") (by decide +kernel)) (fun _ h9 => h9) rfl dX11_degree_27 ?_
      refine lv_iload_n hx hb dX11_degree_30 rfl (lv_at hl 2 rfl) ?_
      obtain ⟨c31_1290, h⟩ := sm_ck h
      refine sm_aald24 hx hb hE hP (t11_3 ha0) c31_1290 dX11_degree_31 ?_
      refine sm_get (ci := 8) (C := RX8) (T := TX8) (N := 4) (v := .ref (adr (((a0 + 12) + 1 + 20 * (x1).toNatClampNeg) + 1))) hx hb hts hin8 hown hE hP (te24 (t11_3 ha0) c31_1290) rfl rfl 1 (by decide) (hts (.fieldLink RX11 255 "OrderMover$Slot" "polynomial" "LOrderMover$Polynomial;") (by decide +kernel)) (fun _ h9 => h9) rfl dX11_degree_32 ?_
      refine lv_astore_n (lv' := [(3, .ref (adr (((a0 + 12) + 1 + 20 * (x1).toNatClampNeg) + 1))), (2, .int v16_1286), (0, .ref (adr a0)), (1, .int x1)]) hx hb dX11_degree_35 rfl hl (by decide) rfl (fun ls hl => ?_)
      refine lv_aload_n hx hb dX11_degree_36 rfl (lv_at hl 0 rfl) ?_
      refine sm_get (ci := 5) (C := RX5) (T := TX5) (N := 4) (v := .int (M (((a0 + 12) + 1 + 20 * (x1).toNatClampNeg) + 1) 0)) hx hb hts hin5 hown hE hP (t8_1 (te24 (t11_3 ha0) c31_1290)) rfl rfl 0 (by decide) (hts (.fieldLink RX11 279 "OrderMover$Polynomial" "howMany" "I") (by decide +kernel)) (fun _ h9 => h9) rfl dX11_degree_37 ?_
      refine lv_if_ne (tgt := 46) hx hb dX11_degree_40 (by decide) (fun c40_1291 => ?_) (fun c40_1291 => ?_)
      · rw [if_neg c40_1291] at h
        refine lv_aload_n hx hb dX11_degree_46 rfl (lv_at hl 0 rfl) ?_
        obtain ⟨v47_1292, hc47_1294, h⟩ := sm_bd h
        refine sm_cl (va_runV (As := []) (rest := []) ⟨hx, hb, hml, hown, hts⟩ (k_X5_greatestSum l D cA adr hJ (((a0 + 12) + 1 + 20 * (x1).toNatClampNeg) + 1) (t8_1 (te24 (t11_3 ha0) c31_1290)) M v47_1292 hc47_1294) (cwV 0 hts gX11_degree_X5_greatestSum rfl rfl rfl (by decide +kernel) ⟨Nat.le_of_ble_eq_true rfl, Nat.le_of_ble_eq_true rfl⟩) ⟨smPc_bl, smRv hE hP (t8_1 (te24 (t11_3 ha0) c31_1290)) rfl (ci := 5) (q := (RX5, TX5, 4)) rfl, smPc_in [.ref (adr (((a0 + 12) + 1 + 20 * (x1).toNatClampNeg) + 1))] hE hP⟩ rfl rfl hl.1 rfl (lv_room (Nat.le_of_ble_eq_true rfl)) dX11_degree_47 ⟨Nat.zero_le _, Nat.zero_le _⟩) hS (fun H locs hP hS => ?_)
        refine lv_lstore (lv' := [(4, .long v47_1292), (3, .ref (adr (((a0 + 12) + 1 + 20 * (x1).toNatClampNeg) + 1))), (2, .int v16_1286), (0, .ref (adr a0)), (1, .int x1)]) hx hb dX11_degree_50 hl (by decide) rfl (fun ls hl => ?_)
        refine lv_lload hx hb dX11_degree_52 (lv_at hl 0 rfl) ?_
        refine lv_ldc2 (v := (2147483647 : Int64)) hx hb hown (hts (.constantLong RX11 297 (2147483647)) (by decide +kernel)) dX11_degree_54 ?_
        refine W.lcmp hx hb dX11_degree_57 ?_
        refine lv_if_le (tgt := 66) hx hb dX11_degree_58 (by decide) (fun c58_1295 => ?_) (fun c58_1295 => ?_)
        · rw [if_pos c58_1295] at h
          refine lv_lload hx hb dX11_degree_66 (lv_at hl 0 rfl) ?_
          refine lv_l2i hx hb dX11_degree_68 rfl ?_
          cases h
          exact sm_iret hx hb hr hlocks hP hS dX11_degree_69
        · rw [if_neg c58_1295] at h
          refine lv_bipush (v := (-13 : Int32)) hx hb dX11_degree_61 (by decide) ?_
          refine lv_goto (tgt := 69) hx hb dX11_degree_63 (by decide) ?_
          cases h
          exact sm_iret hx hb hr hlocks hP hS dX11_degree_69
      · rw [if_pos c40_1291] at h
        refine lv_bipush (v := (-4 : Int32)) hx hb dX11_degree_43 (by decide) ?_
        cases h
        exact sm_iret hx hb hr hlocks hP hS dX11_degree_45
    · rw [if_neg c21_1289] at h
      refine lv_iload_n hx hb dX11_degree_24 rfl (lv_at hl 0 rfl) ?_
      cases h
      exact sm_iret hx hb hr hlocks hP hS dX11_degree_25
  · rw [if_pos c4_1284] at h
    refine lv_iconst (v := (-1 : Int32)) hx hb dX11_degree_7 (by decide) ?_
    cases h
    exact sm_iret hx hb hr hlocks hP hS dX11_degree_8
set_option maxHeartbeats 4000000 in
set_option maxRecDepth 100000 in
theorem k_X11_drift (l : Launch) (D : va_G) (cA : Nat → ClassId) (adr : Nat → Nat) (hJ : smJ 1 adr) (a0 : Nat) (x1 : Int32) (ha0 : smT 1 a0 11) (M : smM) (v1 : Int32) (M1 : smM) (h : m_X11_drift a0 x1 M = some (v1, M1)) : Met l yX11_drift wsX11_drift ({ frames := 5, cells := 0, slots := 0, locals := 115 }) (smPc D cA 1 adr M [.ref (adr a0), .int x1]) (smQi D cA 1 adr M1 v1) 0 0 (smA 1 adr) := by
  refine Met.ofW (cc := cX11_drift) (maxL := 2) (ret := (some .int)) (by decide) rfl ?_
  intro p e s m args below meth c s₁ B hml hv
  obtain ⟨rfl, hE, hP⟩ := hv
  have hx := B.exec
  have hb := B.bytes
  have hr := B.returns
  have hts := atoms_spec (ws := wsX11_drift) B.pre
  have hown : s.vm.findClass RX11 = some m.cls := findClass_of_methodNamed B.named
  have hlocks := B.notSynchronized
  have hS : va_S (smA 1 adr) s.heap s.heap [] := va_S.rf
  have hP : smP D cA 1 adr M s.heap := hP
  have hl := lv_entry ([.ref (adr a0), .int x1]) (n := 2) (Nat.le_of_ble_eq_true rfl)
  rw [lg_entry_eq]
  generalize (lg_sl ([.ref (adr a0), .int x1]) ++ List.replicate (2 - (lg_sl ([.ref (adr a0), .int x1])).length) Slot.unset).toArray = ls at hl ⊢
  have hl : lv_has ls 2 [(0, .ref (adr a0)), (1, .int x1)] := hl
  unfold m_X11_drift at h
  have hin11 : ∀ w ∈ u_ws RX11 TX11 11, w ∈ wsX11_drift := by decide +kernel
  refine lv_iload_n hx hb dX11_drift_0 rfl (lv_at hl 1 rfl) ?_
  refine lv_iconst (v := (1 : Int32)) hx hb dX11_drift_1 (by decide) ?_
  refine lv_ldc (v := (999999 : Int32)) hx hb hown (hts (.constant RX11 120 (999999)) (by decide +kernel)) dX11_drift_2 ?_
  obtain ⟨v4_1296, hc4_1298, h⟩ := sm_bd h
  refine sm_ci (va_runS (As := [.int x1, .int (1 : Int32), .int (999999 : Int32)]) (rest := []) ⟨hx, hb, hml, hown, hts⟩ (k_X11_isWithin l D cA adr hJ x1 (1 : Int32) (999999 : Int32)  M v4_1296 hc4_1298) (va_cwS 3 hts gX11_drift_X11_isWithin rfl rfl rfl (by decide +kernel) ⟨Nat.le_of_ble_eq_true rfl, Nat.le_of_ble_eq_true rfl⟩) ⟨smPc_bl, smPc_in [.int x1, .int (1 : Int32), .int (999999 : Int32)] hE hP⟩ rfl rfl hl.1 rfl (lv_room (Nat.le_of_ble_eq_true rfl)) dX11_drift_4 ⟨Nat.zero_le _, Nat.zero_le _⟩) hS (fun H locs hP hS => ?_)
  refine lv_if_ne (tgt := 12) hx hb dX11_drift_7 (by decide) (fun c7_1299 => ?_) (fun c7_1299 => ?_)
  · rw [if_neg c7_1299] at h
    refine lv_aload_n hx hb dX11_drift_12 rfl (lv_at hl 0 rfl) ?_
    refine sm_get (ci := 11) (C := RX11) (T := TX11) (N := 11) (v := .ref (adr (a0 + 1))) hx hb hts hin11 hown hE hP ha0 rfl rfl 0 (by decide) (hts (.fieldLink RX11 12 "OrderMover" "setting" "LOrderMover$Setting;") (by decide +kernel)) (fun _ h9 => h9) rfl dX11_drift_13 ?_
    refine lv_aload_n hx hb dX11_drift_16 rfl (lv_at hl 0 rfl) ?_
    refine sm_get (ci := 11) (C := RX11) (T := TX11) (N := 11) (v := .ref (adr (a0 + 1))) hx hb hts hin11 hown hE hP ha0 rfl rfl 0 (by decide) (hts (.fieldLink RX11 12 "OrderMover" "setting" "LOrderMover$Setting;") (by decide +kernel)) (fun _ h9 => h9) rfl dX11_drift_17 ?_
    refine lv_iload_n hx hb dX11_drift_20 rfl (lv_at hl 1 rfl) ?_
    refine lv_iconst (v := (0 : Int32)) hx hb dX11_drift_21 (by decide) ?_
    obtain ⟨v22_1300, M22_1301, hc22_1302, h⟩ := sm_bd2 h
    refine sm_ci (va_runV (As := [.int x1, .int (0 : Int32)]) (rest := [.ref (adr (a0 + 1))]) ⟨hx, hb, hml, hown, hts⟩ (k_X7_scatter l D cA adr hJ (a0 + 1) x1 (0 : Int32) (t11_0 ha0) M v22_1300 M22_1301 hc22_1302) (cwV 2 hts gX11_drift_X7_scatter rfl rfl rfl (by decide +kernel) ⟨Nat.le_of_ble_eq_true rfl, Nat.le_of_ble_eq_true rfl⟩) ⟨smPc_bl, smRv hE hP (t11_0 ha0) rfl (ci := 7) (q := (RX7, TX7, 7)) rfl, smPc_in [.ref (adr (a0 + 1)), .int x1, .int (0 : Int32)] hE hP⟩ rfl rfl hl.1 rfl (lv_room (Nat.le_of_ble_eq_true rfl)) dX11_drift_22 ⟨Nat.zero_le _, Nat.zero_le _⟩) hS (fun H locs hP hS => ?_)
    refine lv_iconst (v := (1 : Int32)) hx hb dX11_drift_25 (by decide) ?_
    obtain ⟨v26_1303, M26_1304, hc26_1305, h⟩ := sm_bd2 h
    refine sm_ci (va_runV (As := [.int v22_1300, .int (1 : Int32)]) (rest := []) ⟨hx, hb, hml, hown, hts⟩ (k_X7_scatter l D cA adr hJ (a0 + 1) v22_1300 (1 : Int32) (t11_0 ha0) M22_1301 v26_1303 M26_1304 hc26_1305) (cwV 2 hts gX11_drift_X7_scatter rfl rfl rfl (by decide +kernel) ⟨Nat.le_of_ble_eq_true rfl, Nat.le_of_ble_eq_true rfl⟩) ⟨smPc_bl, smRv hE hP (t11_0 ha0) rfl (ci := 7) (q := (RX7, TX7, 7)) rfl, smPc_in [.ref (adr (a0 + 1)), .int v22_1300, .int (1 : Int32)] hE hP⟩ rfl rfl hl.1 rfl (lv_room (Nat.le_of_ble_eq_true rfl)) dX11_drift_26 ⟨Nat.zero_le _, Nat.zero_le _⟩) hS (fun H locs hP hS => ?_)
    refine lv_pop hx hb dX11_drift_29 rfl ?_
    refine lv_aload_n hx hb dX11_drift_30 rfl (lv_at hl 0 rfl) ?_
    refine sm_get (ci := 11) (C := RX11) (T := TX11) (N := 11) (v := .ref (adr (a0 + 93))) hx hb hts hin11 hown hE hP ha0 rfl rfl 4 (by decide) (hts (.fieldLink RX11 33 "OrderMover" "ideal" "LOrderMover$Ideal;") (by decide +kernel)) (fun _ h9 => h9) rfl dX11_drift_31 ?_
    obtain ⟨M34_1307, hc34_1308, h⟩ := sm_bd h
    refine sm_cv (va_runV (As := []) (rest := []) ⟨hx, hb, hml, hown, hts⟩ (k_X2_forget l D cA adr hJ (a0 + 93) (t11_4 ha0) M26_1304 M34_1307 hc34_1308) (cwV 0 hts gX11_drift_X2_forget rfl rfl rfl (by decide +kernel) ⟨Nat.le_of_ble_eq_true rfl, Nat.le_of_ble_eq_true rfl⟩) ⟨smPc_bl, smRv hE hP (t11_4 ha0) rfl (ci := 2) (q := (RX2, TX2, 9)) rfl, smPc_in [.ref (adr (a0 + 93))] hE hP⟩ rfl rfl hl.1 rfl (lv_room (Nat.le_of_ble_eq_true rfl)) dX11_drift_34 ⟨Nat.zero_le _, Nat.zero_le _⟩) hS (fun H locs hP hS => ?_)
    refine lv_aload_n hx hb dX11_drift_37 rfl (lv_at hl 0 rfl) ?_
    refine sm_get (ci := 11) (C := RX11) (T := TX11) (N := 11) (v := .ref (adr (a0 + 1))) hx hb hts hin11 hown hE hP ha0 rfl rfl 0 (by decide) (hts (.fieldLink RX11 12 "OrderMover" "setting" "LOrderMover$Setting;") (by decide +kernel)) (fun _ h9 => h9) rfl dX11_drift_38 ?_
    obtain ⟨v41_1309, hc41_1311, h⟩ := sm_bd h
    refine sm_ci (va_runV (As := []) (rest := []) ⟨hx, hb, hml, hown, hts⟩ (k_X7_dimension l D cA adr hJ (a0 + 1) (t11_0 ha0) M34_1307 v41_1309 hc41_1311) (cwV 0 hts gX11_drift_X7_dimension rfl rfl rfl (by decide +kernel) ⟨Nat.le_of_ble_eq_true rfl, Nat.le_of_ble_eq_true rfl⟩) ⟨smPc_bl, smRv hE hP (t11_0 ha0) rfl (ci := 7) (q := (RX7, TX7, 7)) rfl, smPc_in [.ref (adr (a0 + 1))] hE hP⟩ rfl rfl hl.1 rfl (lv_room (Nat.le_of_ble_eq_true rfl)) dX11_drift_41 ⟨Nat.zero_le _, Nat.zero_le _⟩) hS (fun H locs hP hS => ?_)
    cases h
    exact sm_iret hx hb hr hlocks hP hS dX11_drift_44
  · rw [if_pos c7_1299] at h
    refine lv_iconst (v := (-1 : Int32)) hx hb dX11_drift_10 (by decide) ?_
    cases h
    exact sm_iret hx hb hr hlocks hP hS dX11_drift_11
set_option maxHeartbeats 4000000 in
set_option maxRecDepth 100000 in
theorem k_X11_drop (l : Launch) (D : va_G) (cA : Nat → ClassId) (adr : Nat → Nat) (hJ : smJ 1 adr) (a0 : Nat) (x1 : Int32) (ha0 : smT 1 a0 11) (M : smM) (v1 : Int32) (M1 : smM) (h : m_X11_drop a0 x1 M = some (v1, M1)) : Met l yX11_drop wsX11_drop ({ frames := 2, cells := 0, slots := 0, locals := 42 }) (smPc D cA 1 adr M [.ref (adr a0), .int x1]) (smQi D cA 1 adr M1 v1) 0 0 (smA 1 adr) := by
  refine Met.ofW (cc := cX11_drop) (maxL := 3) (ret := (some .int)) (by decide) rfl ?_
  intro p e s m args below meth c s₁ B hml hv
  obtain ⟨rfl, hE, hP⟩ := hv
  have hx := B.exec
  have hb := B.bytes
  have hr := B.returns
  have hts := atoms_spec (ws := wsX11_drop) B.pre
  have hown : s.vm.findClass RX11 = some m.cls := findClass_of_methodNamed B.named
  have hlocks := B.notSynchronized
  have hS : va_S (smA 1 adr) s.heap s.heap [] := va_S.rf
  have hP : smP D cA 1 adr M s.heap := hP
  have hl := lv_entry ([.ref (adr a0), .int x1]) (n := 3) (Nat.le_of_ble_eq_true rfl)
  rw [lg_entry_eq]
  generalize (lg_sl ([.ref (adr a0), .int x1]) ++ List.replicate (3 - (lg_sl ([.ref (adr a0), .int x1])).length) Slot.unset).toArray = ls at hl ⊢
  have hl : lv_has ls 3 [(0, .ref (adr a0)), (1, .int x1)] := hl
  unfold m_X11_drop at h
  have hin8 : ∀ w ∈ u_ws RX8 TX8 4, w ∈ wsX11_drop := by decide +kernel
  have hin11 : ∀ w ∈ u_ws RX11 TX11 11, w ∈ wsX11_drop := by decide +kernel
  refine lv_iload_n hx hb dX11_drop_0 rfl (lv_at hl 1 rfl) ?_
  obtain ⟨v1_1312, hc1_1314, h⟩ := sm_bd h
  refine sm_ci (va_runS (As := [.int x1]) (rest := []) ⟨hx, hb, hml, hown, hts⟩ (k_X11_isSlot l D cA adr hJ x1  M v1_1312 hc1_1314) (va_cwS 1 hts gX11_drop_X11_isSlot rfl rfl rfl (by decide +kernel) ⟨Nat.le_of_ble_eq_true rfl, Nat.le_of_ble_eq_true rfl⟩) ⟨smPc_bl, smPc_in [.int x1] hE hP⟩ rfl rfl hl.1 rfl (lv_room (Nat.le_of_ble_eq_true rfl)) dX11_drop_1 ⟨Nat.zero_le _, Nat.zero_le _⟩) hS (fun H locs hP hS => ?_)
  refine lv_if_ne (tgt := 9) hx hb dX11_drop_4 (by decide) (fun c4_1315 => ?_) (fun c4_1315 => ?_)
  · rw [if_neg c4_1315] at h
    refine lv_aload_n hx hb dX11_drop_9 rfl (lv_at hl 0 rfl) ?_
    refine sm_get (ci := 11) (C := RX11) (T := TX11) (N := 11) (v := .ref (adr (a0 + 12))) hx hb hts hin11 hown hE hP ha0 rfl rfl 3 (by decide) (hts (.fieldLink RX11 26 "OrderMover" "slots" "[LOrderMover$Slot;") (by decide +kernel)) (fun _ h9 => h9) rfl dX11_drop_10 ?_
    refine lv_iload_n hx hb dX11_drop_13 rfl (lv_at hl 1 rfl) ?_
    obtain ⟨c14_1316, h⟩ := sm_ck h
    refine sm_aald24 hx hb hE hP (t11_3 ha0) c14_1316 dX11_drop_14 ?_
    refine sm_get (ci := 8) (C := RX8) (T := TX8) (N := 4) (v := .int (M ((a0 + 12) + 1 + 20 * (x1).toNatClampNeg) 0)) hx hb hts hin8 hown hE hP (te24 (t11_3 ha0) c14_1316) rfl rfl 0 (by decide) (hts (.fieldLink RX11 252 "OrderMover$Slot" "holds" "I") (by decide +kernel)) (fun _ h9 => h9) rfl dX11_drop_15 ?_
    refine lv_istore_n (lv' := [(2, .int (M ((a0 + 12) + 1 + 20 * (x1).toNatClampNeg) 0)), (0, .ref (adr a0)), (1, .int x1)]) hx hb dX11_drop_18 rfl hl (by decide) rfl (fun ls hl => ?_)
    refine lv_aload_n hx hb dX11_drop_19 rfl (lv_at hl 1 rfl) ?_
    refine sm_get (ci := 11) (C := RX11) (T := TX11) (N := 11) (v := .ref (adr (a0 + 12))) hx hb hts hin11 hown hE hP ha0 rfl rfl 3 (by decide) (hts (.fieldLink RX11 26 "OrderMover" "slots" "[LOrderMover$Slot;") (by decide +kernel)) (fun _ h9 => h9) rfl dX11_drop_20 ?_
    refine lv_iload_n hx hb dX11_drop_23 rfl (lv_at hl 2 rfl) ?_
    obtain ⟨c24_1317, h⟩ := sm_ck h
    refine sm_aald24 hx hb hE hP (t11_3 ha0) c24_1317 dX11_drop_24 ?_
    refine lv_iconst (v := (0 : Int32)) hx hb dX11_drop_25 (by decide) ?_
    refine sm_put (ci := 8) (C := RX8) (T := TX8) (N := 4) (ty := .int) hx hb hts hin8 tyX8 tyX8_ok nmX8 hown hE hJ hP hS (te24 (t11_3 ha0) c24_1317) rfl rfl 0 (by decide) (hts (.fieldLink RX11 252 "OrderMover$Slot" "holds" "I") (by decide +kernel)) (fun _ h9 => h9) rfl (by decide +kernel) rfl rfl (Nat.le_of_ble_eq_true rfl) rfl dX11_drop_26 (fun H locs hP hS => ?_)
    obtain ⟨M26_1318, hM, h⟩ := sm_lt h
    rw [← hM] at hP; clear hM
    refine lv_iload_n hx hb dX11_drop_29 rfl (lv_at hl 0 rfl) ?_
    cases h
    exact sm_iret hx hb hr hlocks hP hS dX11_drop_30
  · rw [if_pos c4_1315] at h
    refine lv_iconst (v := (-1 : Int32)) hx hb dX11_drop_7 (by decide) ?_
    cases h
    exact sm_iret hx hb hr hlocks hP hS dX11_drop_8
set_option maxHeartbeats 4000000 in
set_option maxRecDepth 100000 in
theorem k_X11_isPrimeOfRange (l : Launch) (D : va_G) (cA : Nat → ClassId) (adr : Nat → Nat) (hJ : smJ 1 adr) (x0 : Int32) (M : smM) (v1 : Int32) (h : m_X11_isPrimeOfRange x0 M = some v1) : Met l yX11_isPrimeOfRange wsX11_isPrimeOfRange ({ frames := 1, cells := 0, slots := 0, locals := 22 }) (smPc D cA 1 adr M [.int x0]) (smQi D cA 1 adr M v1) 0 0 (smA 1 adr) := by
  refine Met.ofW (cc := cX11_isPrimeOfRange) (maxL := 2) (ret := (some .boolean)) (by decide) rfl ?_
  intro p e s m args below meth c s₁ B hml hv
  obtain ⟨rfl, hE, hP⟩ := hv
  have hx := B.exec
  have hb := B.bytes
  have hr := B.returns
  have hts := atoms_spec (ws := wsX11_isPrimeOfRange) B.pre
  have hown : s.vm.findClass RX11 = some m.cls := findClass_of_methodNamed B.named
  have hlocks := B.notSynchronized
  have hS : va_S (smA 1 adr) s.heap s.heap [] := va_S.rf
  have hP : smP D cA 1 adr M s.heap := hP
  have hl := lv_entry ([.int x0]) (n := 2) (Nat.le_of_ble_eq_true rfl)
  rw [lg_entry_eq]
  generalize (lg_sl ([.int x0]) ++ List.replicate (2 - (lg_sl ([.int x0])).length) Slot.unset).toArray = ls at hl ⊢
  have hl : lv_has ls 2 [(0, .int x0)] := hl
  unfold m_X11_isPrimeOfRange at h
  refine lv_iload_n hx hb dX11_isPrimeOfRange_0 rfl (lv_at hl 0 rfl) ?_
  refine lv_iconst (v := (2 : Int32)) hx hb dX11_isPrimeOfRange_1 (by decide) ?_
  refine lv_bipush (v := (97 : Int32)) hx hb dX11_isPrimeOfRange_2 (by decide) ?_
  obtain ⟨v4_1319, hc4_1321, h⟩ := sm_bd h
  refine sm_ci (va_runS (As := [.int x0, .int (2 : Int32), .int (97 : Int32)]) (rest := []) ⟨hx, hb, hml, hown, hts⟩ (k_X11_isWithin l D cA adr hJ x0 (2 : Int32) (97 : Int32)  M v4_1319 hc4_1321) (va_cwS 3 hts gX11_isPrimeOfRange_X11_isWithin rfl rfl rfl (by decide +kernel) ⟨Nat.le_of_ble_eq_true rfl, Nat.le_of_ble_eq_true rfl⟩) ⟨smPc_bl, smPc_in [.int x0, .int (2 : Int32), .int (97 : Int32)] hE hP⟩ rfl rfl hl.1 rfl (lv_room (Nat.le_of_ble_eq_true rfl)) dX11_isPrimeOfRange_4 ⟨Nat.zero_le _, Nat.zero_le _⟩) hS (fun H locs hP hS => ?_)
  refine lv_if_ne (tgt := 12) hx hb dX11_isPrimeOfRange_7 (by decide) (fun c7_1322 => ?_) (fun c7_1322 => ?_)
  · rw [if_neg c7_1322] at h
    refine lv_iconst (v := (2 : Int32)) hx hb dX11_isPrimeOfRange_12 (by decide) ?_
    refine lv_istore_n (lv' := [(1, .int (2 : Int32)), (0, .int x0)]) hx hb dX11_isPrimeOfRange_13 rfl hl (by decide) rfl (fun ls hl => ?_)
    refine sm_lp (b := fun rc q => m_X11_isPrimeOfRange_b14 x0 M rc q) (P := fun (q : Int32) H locs ls => smP D cA 1 adr M H ∧ va_S (smA 1 adr) s.heap H locs ∧ lv_has ls 2 [(0, .int x0), (1, .int q)]) (pc := 14) ?_ _ _ _ _ _ h ⟨hP, hS, lv_sub hl [1, 0] rfl⟩
    intro rc14_1324 ih14_1325 q H locs ls h hI
    obtain ⟨x1_14_1323, hq⟩ : ∃ y, y = q := ⟨_, rfl⟩; subst hq
    obtain ⟨hP, hS, hl⟩ := hI
    have hP : smP D cA 1 adr M H := hP
    have hl : lv_has ls 2 [(0, .int x0), (1, .int x1_14_1323)] := hl
    have h : m_X11_isPrimeOfRange_b14 x0 M rc14_1324 x1_14_1323 = some _ := h
    unfold m_X11_isPrimeOfRange_b14 at h
    refine lv_iload_n hx hb dX11_isPrimeOfRange_14 rfl (lv_at hl 1 rfl) ?_
    refine lv_iload_n hx hb dX11_isPrimeOfRange_15 rfl (lv_at hl 1 rfl) ?_
    refine lv_imul hx hb dX11_isPrimeOfRange_16 ?_
    refine lv_iload_n hx hb dX11_isPrimeOfRange_17 rfl (lv_at hl 0 rfl) ?_
    refine lv_icmp_gt (tgt := 35) hx hb dX11_isPrimeOfRange_18 (by decide) (fun c18_1326 => ?_) (fun c18_1326 => ?_)
    · rw [if_pos c18_1326] at h
      refine lv_iconst (v := (1 : Int32)) hx hb dX11_isPrimeOfRange_35 (by decide) ?_
      cases h
      exact sm_zret (by first | rfl | decide) hx hb hr hlocks hP hS dX11_isPrimeOfRange_36
    · rw [if_neg c18_1326] at h
      refine lv_iload_n hx hb dX11_isPrimeOfRange_21 rfl (lv_at hl 0 rfl) ?_
      refine lv_iload_n hx hb dX11_isPrimeOfRange_22 rfl (lv_at hl 1 rfl) ?_
      obtain ⟨c23_1327, h⟩ := sm_ck h
      refine lv_irem hx hb dX11_isPrimeOfRange_23 c23_1327 ?_
      refine lv_if_ne (tgt := 29) hx hb dX11_isPrimeOfRange_24 (by decide) (fun c24_1328 => ?_) (fun c24_1328 => ?_)
      · rw [if_neg c24_1328] at h
        refine lv_iinc (v := (x1_14_1323 + (1 : Int32))) (lv' := [(1, .int (x1_14_1323 + (1 : Int32))), (0, .int x0)]) hx hb dX11_isPrimeOfRange_29 hl (k := 1) rfl (congrArg (fun z => x1_14_1323 + z) (by decide)) (by decide) rfl (fun ls hl => ?_)
        refine lv_goto (tgt := 14) hx hb dX11_isPrimeOfRange_32 (by decide) ?_
        exact ih14_1325 (x1_14_1323 + (1 : Int32)) _ _ _ h ⟨hP, hS, lv_sub hl [1, 0] rfl⟩
      · rw [if_pos c24_1328] at h
        refine lv_iconst (v := (0 : Int32)) hx hb dX11_isPrimeOfRange_27 (by decide) ?_
        cases h
        exact sm_zret (by first | rfl | decide) hx hb hr hlocks hP hS dX11_isPrimeOfRange_28
  · rw [if_pos c7_1322] at h
    refine lv_iconst (v := (0 : Int32)) hx hb dX11_isPrimeOfRange_10 (by decide) ?_
    cases h
    exact sm_zret (by first | rfl | decide) hx hb hr hlocks hP hS dX11_isPrimeOfRange_11
set_option maxHeartbeats 4000000 in
set_option maxRecDepth 100000 in
theorem k_X11_moveSlotsToField (l : Launch) (D : va_G) (cA : Nat → ClassId) (adr : Nat → Nat) (hJ : smJ 1 adr) (a0 : Nat) (ha0 : smT 1 a0 11) (M : smM) (M1 : smM) (h : m_X11_moveSlotsToField a0 M = some M1) : Met l yX11_moveSlotsToField wsX11_moveSlotsToField ({ frames := 2, cells := 0, slots := 0, locals := 45 }) (smPc D cA 1 adr M [.ref (adr a0)]) (smQv D cA 1 adr M1) 0 0 (smA 1 adr) := by
  refine Met.ofW (cc := cX11_moveSlotsToField) (maxL := 2) (ret := none) (by decide) rfl ?_
  intro p e s m args below meth c s₁ B hml hv
  obtain ⟨rfl, hE, hP⟩ := hv
  have hx := B.exec
  have hb := B.bytes
  have hr := B.returns
  have hts := atoms_spec (ws := wsX11_moveSlotsToField) B.pre
  have hown : s.vm.findClass RX11 = some m.cls := findClass_of_methodNamed B.named
  have hlocks := B.notSynchronized
  have hS : va_S (smA 1 adr) s.heap s.heap [] := va_S.rf
  have hP : smP D cA 1 adr M s.heap := hP
  have hl := lv_entry ([.ref (adr a0)]) (n := 2) (Nat.le_of_ble_eq_true rfl)
  rw [lg_entry_eq]
  generalize (lg_sl ([.ref (adr a0)]) ++ List.replicate (2 - (lg_sl ([.ref (adr a0)])).length) Slot.unset).toArray = ls at hl ⊢
  have hl : lv_has ls 2 [(0, .ref (adr a0))] := hl
  unfold m_X11_moveSlotsToField at h
  have hin7 : ∀ w ∈ u_ws RX7 TX7 7, w ∈ wsX11_moveSlotsToField := by decide +kernel
  have hin8 : ∀ w ∈ u_ws RX8 TX8 4, w ∈ wsX11_moveSlotsToField := by decide +kernel
  have hin11 : ∀ w ∈ u_ws RX11 TX11 11, w ∈ wsX11_moveSlotsToField := by decide +kernel
  refine lv_iconst (v := (0 : Int32)) hx hb dX11_moveSlotsToField_0 (by decide) ?_
  refine lv_istore_n (lv' := [(1, .int (0 : Int32)), (0, .ref (adr a0))]) hx hb dX11_moveSlotsToField_1 rfl hl (by decide) rfl (fun ls hl => ?_)
  refine sm_lp (b := fun rc q => m_X11_moveSlotsToField_b2 a0 rc q.1 q.2) (P := fun (q : Int32 × smM) H locs ls => smP D cA 1 adr q.2 H ∧ va_S (smA 1 adr) s.heap H locs ∧ lv_has ls 2 [(0, .ref (adr a0)), (1, .int q.1)]) (pc := 2) ?_ _ _ _ _ _ h ⟨hP, hS, lv_sub hl [1, 0] rfl⟩
  intro rc2_1331 ih2_1332 q H locs ls h hI
  obtain ⟨x1_2_1329, M2_1330⟩ := q
  obtain ⟨hP, hS, hl⟩ := hI
  have hP : smP D cA 1 adr M2_1330 H := hP
  have hl : lv_has ls 2 [(0, .ref (adr a0)), (1, .int x1_2_1329)] := hl
  have h : m_X11_moveSlotsToField_b2 a0 rc2_1331 x1_2_1329 M2_1330 = some _ := h
  unfold m_X11_moveSlotsToField_b2 at h
  refine lv_iload_n hx hb dX11_moveSlotsToField_2 rfl (lv_at hl 1 rfl) ?_
  refine lv_iconst (v := (4 : Int32)) hx hb dX11_moveSlotsToField_3 (by decide) ?_
  refine lv_icmp_ge (tgt := 51) hx hb dX11_moveSlotsToField_4 (by decide) (fun c4_1333 => ?_) (fun c4_1333 => ?_)
  · rw [if_pos c4_1333] at h
    cases h
    exact sm_vret hx hb hr hlocks hP hS dX11_moveSlotsToField_51
  · rw [if_neg c4_1333] at h
    refine lv_aload_n hx hb dX11_moveSlotsToField_7 rfl (lv_at hl 0 rfl) ?_
    refine sm_get (ci := 11) (C := RX11) (T := TX11) (N := 11) (v := .ref (adr (a0 + 12))) hx hb hts hin11 hown hE hP ha0 rfl rfl 3 (by decide) (hts (.fieldLink RX11 26 "OrderMover" "slots" "[LOrderMover$Slot;") (by decide +kernel)) (fun _ h9 => h9) rfl dX11_moveSlotsToField_8 ?_
    refine lv_iload_n hx hb dX11_moveSlotsToField_11 rfl (lv_at hl 1 rfl) ?_
    obtain ⟨c12_1334, h⟩ := sm_ck h
    refine sm_aald24 hx hb hE hP (t11_3 ha0) c12_1334 dX11_moveSlotsToField_12 ?_
    refine sm_get (ci := 8) (C := RX8) (T := TX8) (N := 4) (v := .ref (adr (((a0 + 12) + 1 + 20 * (x1_2_1329).toNatClampNeg) + 1))) hx hb hts hin8 hown hE hP (te24 (t11_3 ha0) c12_1334) rfl rfl 1 (by decide) (hts (.fieldLink RX11 255 "OrderMover$Slot" "polynomial" "LOrderMover$Polynomial;") (by decide +kernel)) (fun _ h9 => h9) rfl dX11_moveSlotsToField_13 ?_
    refine lv_aload_n hx hb dX11_moveSlotsToField_16 rfl (lv_at hl 0 rfl) ?_
    refine sm_get (ci := 11) (C := RX11) (T := TX11) (N := 11) (v := .ref (adr (a0 + 1))) hx hb hts hin11 hown hE hP ha0 rfl rfl 0 (by decide) (hts (.fieldLink RX11 12 "OrderMover" "setting" "LOrderMover$Setting;") (by decide +kernel)) (fun _ h9 => h9) rfl dX11_moveSlotsToField_17 ?_
    refine sm_get (ci := 7) (C := RX7) (T := TX7) (N := 7) (v := .int (M2_1330 (a0 + 1) 0)) hx hb hts hin7 hown hE hP (t11_0 ha0) rfl rfl 0 (by decide) (hts (.fieldLink RX11 75 "OrderMover$Setting" "p" "I") (by decide +kernel)) (fun _ h9 => h9) rfl dX11_moveSlotsToField_20 ?_
    obtain ⟨M23_1336, hc23_1337, h⟩ := sm_bd h
    refine sm_cv (va_runV (As := [.int (M2_1330 (a0 + 1) 0)]) (rest := []) ⟨hx, hb, hml, hown, hts⟩ (k_X5_moveToField l D cA adr hJ (((a0 + 12) + 1 + 20 * (x1_2_1329).toNatClampNeg) + 1) (M2_1330 (a0 + 1) 0) (t8_1 (te24 (t11_3 ha0) c12_1334)) M2_1330 M23_1336 hc23_1337) (cwV 1 hts gX11_moveSlotsToField_X5_moveToField rfl rfl rfl (by decide +kernel) ⟨Nat.le_of_ble_eq_true rfl, Nat.le_of_ble_eq_true rfl⟩) ⟨smPc_bl, smRv hE hP (t8_1 (te24 (t11_3 ha0) c12_1334)) rfl (ci := 5) (q := (RX5, TX5, 4)) rfl, smPc_in [.ref (adr (((a0 + 12) + 1 + 20 * (x1_2_1329).toNatClampNeg) + 1)), .int (M2_1330 (a0 + 1) 0)] hE hP⟩ rfl rfl hl.1 rfl (lv_room (Nat.le_of_ble_eq_true rfl)) dX11_moveSlotsToField_23 ⟨Nat.zero_le _, Nat.zero_le _⟩) hS (fun H locs hP hS => ?_)
    refine lv_aload_n hx hb dX11_moveSlotsToField_26 rfl (lv_at hl 0 rfl) ?_
    refine sm_get (ci := 11) (C := RX11) (T := TX11) (N := 11) (v := .ref (adr (a0 + 12))) hx hb hts hin11 hown hE hP ha0 rfl rfl 3 (by decide) (hts (.fieldLink RX11 26 "OrderMover" "slots" "[LOrderMover$Slot;") (by decide +kernel)) (fun _ h9 => h9) rfl dX11_moveSlotsToField_27 ?_
    refine lv_iload_n hx hb dX11_moveSlotsToField_30 rfl (lv_at hl 1 rfl) ?_
    obtain ⟨c31_1338, h⟩ := sm_ck h
    refine sm_aald24 hx hb hE hP (t11_3 ha0) c31_1338 dX11_moveSlotsToField_31 ?_
    refine sm_get (ci := 8) (C := RX8) (T := TX8) (N := 4) (v := .ref (adr (((a0 + 12) + 1 + 20 * (x1_2_1329).toNatClampNeg) + 6))) hx hb hts hin8 hown hE hP (te24 (t11_3 ha0) c31_1338) rfl rfl 3 (by decide) (hts (.fieldLink RX11 265 "OrderMover$Slot" "members" "LOrderMover$Members;") (by decide +kernel)) (fun _ h9 => h9) rfl dX11_moveSlotsToField_32 ?_
    refine lv_aload_n hx hb dX11_moveSlotsToField_35 rfl (lv_at hl 0 rfl) ?_
    refine sm_get (ci := 11) (C := RX11) (T := TX11) (N := 11) (v := .ref (adr (a0 + 1))) hx hb hts hin11 hown hE hP ha0 rfl rfl 0 (by decide) (hts (.fieldLink RX11 12 "OrderMover" "setting" "LOrderMover$Setting;") (by decide +kernel)) (fun _ h9 => h9) rfl dX11_moveSlotsToField_36 ?_
    refine sm_get (ci := 7) (C := RX7) (T := TX7) (N := 7) (v := .int (M23_1336 (a0 + 1) 0)) hx hb hts hin7 hown hE hP (t11_0 ha0) rfl rfl 0 (by decide) (hts (.fieldLink RX11 75 "OrderMover$Setting" "p" "I") (by decide +kernel)) (fun _ h9 => h9) rfl dX11_moveSlotsToField_39 ?_
    obtain ⟨M42_1340, hc42_1341, h⟩ := sm_bd h
    refine sm_cv (va_runV (As := [.int (M23_1336 (a0 + 1) 0)]) (rest := []) ⟨hx, hb, hml, hown, hts⟩ (k_X4_moveToField l D cA adr hJ (((a0 + 12) + 1 + 20 * (x1_2_1329).toNatClampNeg) + 6) (M23_1336 (a0 + 1) 0) (t8_3 (te24 (t11_3 ha0) c31_1338)) M23_1336 M42_1340 hc42_1341) (cwV 1 hts gX11_moveSlotsToField_X4_moveToField rfl rfl rfl (by decide +kernel) ⟨Nat.le_of_ble_eq_true rfl, Nat.le_of_ble_eq_true rfl⟩) ⟨smPc_bl, smRv hE hP (t8_3 (te24 (t11_3 ha0) c31_1338)) rfl (ci := 4) (q := (RX4, TX4, 4)) rfl, smPc_in [.ref (adr (((a0 + 12) + 1 + 20 * (x1_2_1329).toNatClampNeg) + 6)), .int (M23_1336 (a0 + 1) 0)] hE hP⟩ rfl rfl hl.1 rfl (lv_room (Nat.le_of_ble_eq_true rfl)) dX11_moveSlotsToField_42 ⟨Nat.zero_le _, Nat.zero_le _⟩) hS (fun H locs hP hS => ?_)
    refine lv_iinc (v := (x1_2_1329 + (1 : Int32))) (lv' := [(1, .int (x1_2_1329 + (1 : Int32))), (0, .ref (adr a0))]) hx hb dX11_moveSlotsToField_45 hl (k := 1) rfl (congrArg (fun z => x1_2_1329 + z) (by decide)) (by decide) rfl (fun ls hl => ?_)
    refine lv_goto (tgt := 2) hx hb dX11_moveSlotsToField_48 (by decide) ?_
    exact ih2_1332 ((x1_2_1329 + (1 : Int32)), M42_1340) _ _ _ h ⟨hP, hS, lv_sub hl [1, 0] rfl⟩
set_option maxHeartbeats 4000000 in
set_option maxRecDepth 100000 in
theorem k_X11_field (l : Launch) (D : va_G) (cA : Nat → ClassId) (adr : Nat → Nat) (hJ : smJ 1 adr) (a0 : Nat) (x1 : Int32) (ha0 : smT 1 a0 11) (M : smM) (v1 : Int32) (M1 : smM) (h : m_X11_field a0 x1 M = some (v1, M1)) : Met l yX11_field wsX11_field ({ frames := 3, cells := 0, slots := 0, locals := 66 }) (smPc D cA 1 adr M [.ref (adr a0), .int x1]) (smQi D cA 1 adr M1 v1) 0 0 (smA 1 adr) := by
  refine Met.ofW (cc := cX11_field) (maxL := 3) (ret := (some .int)) (by decide) rfl ?_
  intro p e s m args below meth c s₁ B hml hv
  obtain ⟨rfl, hE, hP⟩ := hv
  have hx := B.exec
  have hb := B.bytes
  have hr := B.returns
  have hts := atoms_spec (ws := wsX11_field) B.pre
  have hown : s.vm.findClass RX11 = some m.cls := findClass_of_methodNamed B.named
  have hlocks := B.notSynchronized
  have hS : va_S (smA 1 adr) s.heap s.heap [] := va_S.rf
  have hP : smP D cA 1 adr M s.heap := hP
  have hl := lv_entry ([.ref (adr a0), .int x1]) (n := 3) (Nat.le_of_ble_eq_true rfl)
  rw [lg_entry_eq]
  generalize (lg_sl ([.ref (adr a0), .int x1]) ++ List.replicate (3 - (lg_sl ([.ref (adr a0), .int x1])).length) Slot.unset).toArray = ls at hl ⊢
  have hl : lv_has ls 3 [(0, .ref (adr a0)), (1, .int x1)] := hl
  unfold m_X11_field at h
  have hin7 : ∀ w ∈ u_ws RX7 TX7 7, w ∈ wsX11_field := by decide +kernel
  have hin11 : ∀ w ∈ u_ws RX11 TX11 11, w ∈ wsX11_field := by decide +kernel
  refine lv_iload_n hx hb dX11_field_0 rfl (lv_at hl 1 rfl) ?_
  obtain ⟨v1_1342, hc1_1344, h⟩ := sm_bd h
  refine sm_ci (va_runS (As := [.int x1]) (rest := []) ⟨hx, hb, hml, hown, hts⟩ (k_X11_isPrimeOfRange l D cA adr hJ x1  M v1_1342 hc1_1344) (va_cwS 1 hts gX11_field_X11_isPrimeOfRange rfl rfl rfl (by decide +kernel) ⟨Nat.le_of_ble_eq_true rfl, Nat.le_of_ble_eq_true rfl⟩) ⟨smPc_bl, smPc_in [.int x1] hE hP⟩ rfl rfl hl.1 rfl (lv_room (Nat.le_of_ble_eq_true rfl)) dX11_field_1 ⟨Nat.zero_le _, Nat.zero_le _⟩) hS (fun H locs hP hS => ?_)
  refine lv_if_ne (tgt := 9) hx hb dX11_field_4 (by decide) (fun c4_1345 => ?_) (fun c4_1345 => ?_)
  · rw [if_neg c4_1345] at h
    refine lv_aload_n hx hb dX11_field_9 rfl (lv_at hl 0 rfl) ?_
    refine sm_get (ci := 11) (C := RX11) (T := TX11) (N := 11) (v := .ref (adr (a0 + 1))) hx hb hts hin11 hown hE hP ha0 rfl rfl 0 (by decide) (hts (.fieldLink RX11 12 "OrderMover" "setting" "LOrderMover$Setting;") (by decide +kernel)) (fun _ h9 => h9) rfl dX11_field_10 ?_
    refine sm_get (ci := 7) (C := RX7) (T := TX7) (N := 7) (v := .int (M (a0 + 1) 0)) hx hb hts hin7 hown hE hP (t11_0 ha0) rfl rfl 0 (by decide) (hts (.fieldLink RX11 75 "OrderMover$Setting" "p" "I") (by decide +kernel)) (fun _ h9 => h9) rfl dX11_field_13 ?_
    refine lv_istore_n (lv' := [(2, .int (M (a0 + 1) 0)), (0, .ref (adr a0)), (1, .int x1)]) hx hb dX11_field_16 rfl hl (by decide) rfl (fun ls hl => ?_)
    refine lv_aload_n hx hb dX11_field_17 rfl (lv_at hl 1 rfl) ?_
    refine sm_get (ci := 11) (C := RX11) (T := TX11) (N := 11) (v := .ref (adr (a0 + 1))) hx hb hts hin11 hown hE hP ha0 rfl rfl 0 (by decide) (hts (.fieldLink RX11 12 "OrderMover" "setting" "LOrderMover$Setting;") (by decide +kernel)) (fun _ h9 => h9) rfl dX11_field_18 ?_
    refine lv_iload_n hx hb dX11_field_21 rfl (lv_at hl 2 rfl) ?_
    obtain ⟨M22_1347, hc22_1348, h⟩ := sm_bd h
    refine sm_cv (va_runV (As := [.int x1]) (rest := []) ⟨hx, hb, hml, hown, hts⟩ (k_X7_moveToField l D cA adr hJ (a0 + 1) x1 (t11_0 ha0) M M22_1347 hc22_1348) (cwV 1 hts gX11_field_X7_moveToField rfl rfl rfl (by decide +kernel) ⟨Nat.le_of_ble_eq_true rfl, Nat.le_of_ble_eq_true rfl⟩) ⟨smPc_bl, smRv hE hP (t11_0 ha0) rfl (ci := 7) (q := (RX7, TX7, 7)) rfl, smPc_in [.ref (adr (a0 + 1)), .int x1] hE hP⟩ rfl rfl hl.1 rfl (lv_room (Nat.le_of_ble_eq_true rfl)) dX11_field_22 ⟨Nat.zero_le _, Nat.zero_le _⟩) hS (fun H locs hP hS => ?_)
    refine lv_aload_n hx hb dX11_field_25 rfl (lv_at hl 1 rfl) ?_
    obtain ⟨M26_1350, hc26_1351, h⟩ := sm_bd h
    refine sm_cv (va_runV (As := []) (rest := []) ⟨hx, hb, hml, hown, hts⟩ (k_X11_moveSlotsToField l D cA adr hJ a0 ha0 M22_1347 M26_1350 hc26_1351) (cwV 0 hts gX11_field_X11_moveSlotsToField rfl rfl rfl (by decide +kernel) ⟨Nat.le_of_ble_eq_true rfl, Nat.le_of_ble_eq_true rfl⟩) ⟨smPc_bl, smRv hE hP ha0 rfl (ci := 11) (q := (RX11, TX11, 11)) rfl, smPc_in [.ref (adr a0)] hE hP⟩ rfl rfl hl.1 rfl (lv_room (Nat.le_of_ble_eq_true rfl)) dX11_field_26 ⟨Nat.zero_le _, Nat.zero_le _⟩) hS (fun H locs hP hS => ?_)
    refine lv_aload_n hx hb dX11_field_29 rfl (lv_at hl 1 rfl) ?_
    refine sm_get (ci := 11) (C := RX11) (T := TX11) (N := 11) (v := .ref (adr (a0 + 93))) hx hb hts hin11 hown hE hP ha0 rfl rfl 4 (by decide) (hts (.fieldLink RX11 33 "OrderMover" "ideal" "LOrderMover$Ideal;") (by decide +kernel)) (fun _ h9 => h9) rfl dX11_field_30 ?_
    obtain ⟨M33_1353, hc33_1354, h⟩ := sm_bd h
    refine sm_cv (va_runV (As := []) (rest := []) ⟨hx, hb, hml, hown, hts⟩ (k_X2_forget l D cA adr hJ (a0 + 93) (t11_4 ha0) M26_1350 M33_1353 hc33_1354) (cwV 0 hts gX11_field_X2_forget rfl rfl rfl (by decide +kernel) ⟨Nat.le_of_ble_eq_true rfl, Nat.le_of_ble_eq_true rfl⟩) ⟨smPc_bl, smRv hE hP (t11_4 ha0) rfl (ci := 2) (q := (RX2, TX2, 9)) rfl, smPc_in [.ref (adr (a0 + 93))] hE hP⟩ rfl rfl hl.1 rfl (lv_room (Nat.le_of_ble_eq_true rfl)) dX11_field_33 ⟨Nat.zero_le _, Nat.zero_le _⟩) hS (fun H locs hP hS => ?_)
    refine lv_iload_n hx hb dX11_field_36 rfl (lv_at hl 0 rfl) ?_
    cases h
    exact sm_iret hx hb hr hlocks hP hS dX11_field_37
  · rw [if_pos c4_1345] at h
    refine lv_iconst (v := (-1 : Int32)) hx hb dX11_field_7 (by decide) ?_
    cases h
    exact sm_iret hx hb hr hlocks hP hS dX11_field_8
set_option maxHeartbeats 4000000 in
set_option maxRecDepth 100000 in
theorem k_X11_get (l : Launch) (D : va_G) (cA : Nat → ClassId) (adr : Nat → Nat) (hJ : smJ 1 adr) (a0 : Nat) (x1 : Int32) (x2 : Int32) (x3 : Int32) (ha0 : smT 1 a0 11) (M : smM) (v1 : Int32) (h : m_X11_get a0 x1 x2 x3 M = some v1) : Met l yX11_get wsX11_get ({ frames := 4, cells := 0, slots := 0, locals := 88 }) (smPc D cA 1 adr M [.ref (adr a0), .int x1, .int x2, .int x3]) (smQi D cA 1 adr M v1) 0 0 (smA 1 adr) := by
  refine Met.ofW (cc := cX11_get) (maxL := 4) (ret := (some .int)) (by decide) rfl ?_
  intro p e s m args below meth c s₁ B hml hv
  obtain ⟨rfl, hE, hP⟩ := hv
  have hx := B.exec
  have hb := B.bytes
  have hr := B.returns
  have hts := atoms_spec (ws := wsX11_get) B.pre
  have hown : s.vm.findClass RX11 = some m.cls := findClass_of_methodNamed B.named
  have hlocks := B.notSynchronized
  have hS : va_S (smA 1 adr) s.heap s.heap [] := va_S.rf
  have hP : smP D cA 1 adr M s.heap := hP
  have hl := lv_entry ([.ref (adr a0), .int x1, .int x2, .int x3]) (n := 4) (Nat.le_of_ble_eq_true rfl)
  rw [lg_entry_eq]
  generalize (lg_sl ([.ref (adr a0), .int x1, .int x2, .int x3]) ++ List.replicate (4 - (lg_sl ([.ref (adr a0), .int x1, .int x2, .int x3])).length) Slot.unset).toArray = ls at hl ⊢
  have hl : lv_has ls 4 [(0, .ref (adr a0)), (1, .int x1), (2, .int x2), (3, .int x3)] := hl
  unfold m_X11_get at h
  have hin11 : ∀ w ∈ u_ws RX11 TX11 11, w ∈ wsX11_get := by decide +kernel
  refine lv_aload_n hx hb dX11_get_0 rfl (lv_at hl 0 rfl) ?_
  refine sm_get (ci := 11) (C := RX11) (T := TX11) (N := 11) (v := .ref (adr (a0 + 1))) hx hb hts hin11 hown hE hP ha0 rfl rfl 0 (by decide) (hts (.fieldLink RX11 12 "OrderMover" "setting" "LOrderMover$Setting;") (by decide +kernel)) (fun _ h9 => h9) rfl dX11_get_1 ?_
  refine lv_iload_n hx hb dX11_get_4 rfl (lv_at hl 1 rfl) ?_
  refine lv_iload_n hx hb dX11_get_5 rfl (lv_at hl 2 rfl) ?_
  refine lv_iload_n hx hb dX11_get_6 rfl (lv_at hl 3 rfl) ?_
  obtain ⟨v7_1355, hc7_1357, h⟩ := sm_bd h
  refine sm_ci (va_runV (As := [.int x1, .int x2, .int x3]) (rest := []) ⟨hx, hb, hml, hown, hts⟩ (k_X7_hasCoefficient l D cA adr hJ (a0 + 1) x1 x2 x3 (t11_0 ha0) M v7_1355 hc7_1357) (cwV 3 hts gX11_get_X7_hasCoefficient rfl rfl rfl (by decide +kernel) ⟨Nat.le_of_ble_eq_true rfl, Nat.le_of_ble_eq_true rfl⟩) ⟨smPc_bl, smRv hE hP (t11_0 ha0) rfl (ci := 7) (q := (RX7, TX7, 7)) rfl, smPc_in [.ref (adr (a0 + 1)), .int x1, .int x2, .int x3] hE hP⟩ rfl rfl hl.1 rfl (lv_room (Nat.le_of_ble_eq_true rfl)) dX11_get_7 ⟨Nat.zero_le _, Nat.zero_le _⟩) hS (fun H locs hP hS => ?_)
  refine lv_if_ne (tgt := 15) hx hb dX11_get_10 (by decide) (fun c10_1358 => ?_) (fun c10_1358 => ?_)
  · rw [if_neg c10_1358] at h
    refine lv_aload_n hx hb dX11_get_15 rfl (lv_at hl 0 rfl) ?_
    refine sm_get (ci := 11) (C := RX11) (T := TX11) (N := 11) (v := .ref (adr (a0 + 1))) hx hb hts hin11 hown hE hP ha0 rfl rfl 0 (by decide) (hts (.fieldLink RX11 12 "OrderMover" "setting" "LOrderMover$Setting;") (by decide +kernel)) (fun _ h9 => h9) rfl dX11_get_16 ?_
    refine lv_iload_n hx hb dX11_get_19 rfl (lv_at hl 1 rfl) ?_
    refine lv_iload_n hx hb dX11_get_20 rfl (lv_at hl 2 rfl) ?_
    refine lv_iload_n hx hb dX11_get_21 rfl (lv_at hl 3 rfl) ?_
    obtain ⟨v22_1359, hc22_1361, h⟩ := sm_bd h
    refine sm_ci (va_runV (As := [.int x1, .int x2, .int x3]) (rest := []) ⟨hx, hb, hml, hown, hts⟩ (k_X7_coefficient l D cA adr hJ (a0 + 1) x1 x2 x3 (t11_0 ha0) M v22_1359 hc22_1361) (cwV 3 hts gX11_get_X7_coefficient rfl rfl rfl (by decide +kernel) ⟨Nat.le_of_ble_eq_true rfl, Nat.le_of_ble_eq_true rfl⟩) ⟨smPc_bl, smRv hE hP (t11_0 ha0) rfl (ci := 7) (q := (RX7, TX7, 7)) rfl, smPc_in [.ref (adr (a0 + 1)), .int x1, .int x2, .int x3] hE hP⟩ rfl rfl hl.1 rfl (lv_room (Nat.le_of_ble_eq_true rfl)) dX11_get_22 ⟨Nat.zero_le _, Nat.zero_le _⟩) hS (fun H locs hP hS => ?_)
    cases h
    exact sm_iret hx hb hr hlocks hP hS dX11_get_25
  · rw [if_pos c10_1358] at h
    refine lv_iconst (v := (-1 : Int32)) hx hb dX11_get_13 (by decide) ?_
    cases h
    exact sm_iret hx hb hr hlocks hP hS dX11_get_14
set_option maxHeartbeats 4000000 in
set_option maxRecDepth 100000 in
theorem k_X11_goBack (l : Launch) (D : va_G) (cA : Nat → ClassId) (adr : Nat → Nat) (hJ : smJ 1 adr) (a0 : Nat) (x1 : Int32) (ha0 : smT 1 a0 11) (M : smM) (v1 : Int32) (M1 : smM) (h : m_X11_goBack a0 x1 M = some (v1, M1)) : Met l yX11_goBack wsX11_goBack ({ frames := 3, cells := 0, slots := 0, locals := 66 }) (smPc D cA 1 adr M [.ref (adr a0), .int x1]) (smQi D cA 1 adr M1 v1) 0 0 (smA 1 adr) := by
  refine Met.ofW (cc := cX11_goBack) (maxL := 2) (ret := (some .int)) (by decide) rfl ?_
  intro p e s m args below meth c s₁ B hml hv
  obtain ⟨rfl, hE, hP⟩ := hv
  have hx := B.exec
  have hb := B.bytes
  have hr := B.returns
  have hts := atoms_spec (ws := wsX11_goBack) B.pre
  have hown : s.vm.findClass RX11 = some m.cls := findClass_of_methodNamed B.named
  have hlocks := B.notSynchronized
  have hS : va_S (smA 1 adr) s.heap s.heap [] := va_S.rf
  have hP : smP D cA 1 adr M s.heap := hP
  have hl := lv_entry ([.ref (adr a0), .int x1]) (n := 2) (Nat.le_of_ble_eq_true rfl)
  rw [lg_entry_eq]
  generalize (lg_sl ([.ref (adr a0), .int x1]) ++ List.replicate (2 - (lg_sl ([.ref (adr a0), .int x1])).length) Slot.unset).toArray = ls at hl ⊢
  have hl : lv_has ls 2 [(0, .ref (adr a0)), (1, .int x1)] := hl
  unfold m_X11_goBack at h
  have hin11 : ∀ w ∈ u_ws RX11 TX11 11, w ∈ wsX11_goBack := by decide +kernel
  refine lv_iload_n hx hb dX11_goBack_0 rfl (lv_at hl 1 rfl) ?_
  refine lv_iconst (v := (0 : Int32)) hx hb dX11_goBack_1 (by decide) ?_
  refine lv_iconst (v := (1 : Int32)) hx hb dX11_goBack_2 (by decide) ?_
  obtain ⟨v3_1362, hc3_1364, h⟩ := sm_bd h
  refine sm_ci (va_runS (As := [.int x1, .int (0 : Int32), .int (1 : Int32)]) (rest := []) ⟨hx, hb, hml, hown, hts⟩ (k_X11_isWithin l D cA adr hJ x1 (0 : Int32) (1 : Int32)  M v3_1362 hc3_1364) (va_cwS 3 hts gX11_goBack_X11_isWithin rfl rfl rfl (by decide +kernel) ⟨Nat.le_of_ble_eq_true rfl, Nat.le_of_ble_eq_true rfl⟩) ⟨smPc_bl, smPc_in [.int x1, .int (0 : Int32), .int (1 : Int32)] hE hP⟩ rfl rfl hl.1 rfl (lv_room (Nat.le_of_ble_eq_true rfl)) dX11_goBack_3 ⟨Nat.zero_le _, Nat.zero_le _⟩) hS (fun H locs hP hS => ?_)
  refine lv_if_ne (tgt := 11) hx hb dX11_goBack_6 (by decide) (fun c6_1365 => ?_) (fun c6_1365 => ?_)
  · rw [if_neg c6_1365] at h
    refine lv_aload_n hx hb dX11_goBack_11 rfl (lv_at hl 0 rfl) ?_
    refine sm_get (ci := 11) (C := RX11) (T := TX11) (N := 11) (v := .ref (adr (a0 + 11))) hx hb hts hin11 hown hE hP ha0 rfl rfl 2 (by decide) (hts (.fieldLink RX11 20 "OrderMover" "imaged" "[Z") (by decide +kernel)) (fun _ h9 => h9) rfl dX11_goBack_12 ?_
    refine lv_iload_n hx hb dX11_goBack_15 rfl (lv_at hl 1 rfl) ?_
    obtain ⟨c16_1366, h⟩ := sm_ck h
    refine sm_zald hx hb hE hP (t11_2 ha0) c16_1366 dX11_goBack_16 ?_
    refine lv_if_ne (tgt := 23) hx hb dX11_goBack_17 (by decide) (fun c17_1367 => ?_) (fun c17_1367 => ?_)
    · rw [if_neg c17_1367] at h
      refine lv_aload_n hx hb dX11_goBack_23 rfl (lv_at hl 0 rfl) ?_
      refine sm_get (ci := 11) (C := RX11) (T := TX11) (N := 11) (v := .ref (adr (a0 + 1))) hx hb hts hin11 hown hE hP ha0 rfl rfl 0 (by decide) (hts (.fieldLink RX11 12 "OrderMover" "setting" "LOrderMover$Setting;") (by decide +kernel)) (fun _ h9 => h9) rfl dX11_goBack_24 ?_
      refine lv_aload_n hx hb dX11_goBack_27 rfl (lv_at hl 0 rfl) ?_
      refine sm_get (ci := 11) (C := RX11) (T := TX11) (N := 11) (v := .ref (adr (a0 + 4))) hx hb hts hin11 hown hE hP ha0 rfl rfl 1 (by decide) (hts (.fieldLink RX11 16 "OrderMover" "images" "[LOrderMover$Setting;") (by decide +kernel)) (fun _ h9 => h9) rfl dX11_goBack_28 ?_
      refine lv_iload_n hx hb dX11_goBack_31 rfl (lv_at hl 1 rfl) ?_
      obtain ⟨c32_1368, h⟩ := sm_ck h
      refine sm_aald23 hx hb hE hP (t11_1 ha0) c32_1368 dX11_goBack_32 ?_
      obtain ⟨M33_1370, hc33_1371, h⟩ := sm_bd h
      refine sm_cv (va_runV (As := [.ref (adr ((a0 + 4) + 1 + 3 * (x1).toNatClampNeg))]) (rest := []) ⟨hx, hb, hml, hown, hts⟩ (k_X7_copyFrom l D cA adr hJ (a0 + 1) ((a0 + 4) + 1 + 3 * (x1).toNatClampNeg) (t11_0 ha0) (te23 (t11_1 ha0) c32_1368) M M33_1370 hc33_1371) (cwV 1 hts gX11_goBack_X7_copyFrom rfl rfl rfl (by decide +kernel) ⟨Nat.le_of_ble_eq_true rfl, Nat.le_of_ble_eq_true rfl⟩) ⟨smPc_bl, smRv hE hP (t11_0 ha0) rfl (ci := 7) (q := (RX7, TX7, 7)) rfl, smPc_in [.ref (adr (a0 + 1)), .ref (adr ((a0 + 4) + 1 + 3 * (x1).toNatClampNeg))] hE hP⟩ rfl rfl hl.1 rfl (lv_room (Nat.le_of_ble_eq_true rfl)) dX11_goBack_33 ⟨Nat.zero_le _, Nat.zero_le _⟩) hS (fun H locs hP hS => ?_)
      refine lv_aload_n hx hb dX11_goBack_36 rfl (lv_at hl 0 rfl) ?_
      obtain ⟨M37_1373, hc37_1374, h⟩ := sm_bd h
      refine sm_cv (va_runV (As := []) (rest := []) ⟨hx, hb, hml, hown, hts⟩ (k_X11_moveSlotsToField l D cA adr hJ a0 ha0 M33_1370 M37_1373 hc37_1374) (cwV 0 hts gX11_goBack_X11_moveSlotsToField rfl rfl rfl (by decide +kernel) ⟨Nat.le_of_ble_eq_true rfl, Nat.le_of_ble_eq_true rfl⟩) ⟨smPc_bl, smRv hE hP ha0 rfl (ci := 11) (q := (RX11, TX11, 11)) rfl, smPc_in [.ref (adr a0)] hE hP⟩ rfl rfl hl.1 rfl (lv_room (Nat.le_of_ble_eq_true rfl)) dX11_goBack_37 ⟨Nat.zero_le _, Nat.zero_le _⟩) hS (fun H locs hP hS => ?_)
      refine lv_aload_n hx hb dX11_goBack_40 rfl (lv_at hl 0 rfl) ?_
      refine sm_get (ci := 11) (C := RX11) (T := TX11) (N := 11) (v := .ref (adr (a0 + 93))) hx hb hts hin11 hown hE hP ha0 rfl rfl 4 (by decide) (hts (.fieldLink RX11 33 "OrderMover" "ideal" "LOrderMover$Ideal;") (by decide +kernel)) (fun _ h9 => h9) rfl dX11_goBack_41 ?_
      obtain ⟨M44_1376, hc44_1377, h⟩ := sm_bd h
      refine sm_cv (va_runV (As := []) (rest := []) ⟨hx, hb, hml, hown, hts⟩ (k_X2_forget l D cA adr hJ (a0 + 93) (t11_4 ha0) M37_1373 M44_1376 hc44_1377) (cwV 0 hts gX11_goBack_X2_forget rfl rfl rfl (by decide +kernel) ⟨Nat.le_of_ble_eq_true rfl, Nat.le_of_ble_eq_true rfl⟩) ⟨smPc_bl, smRv hE hP (t11_4 ha0) rfl (ci := 2) (q := (RX2, TX2, 9)) rfl, smPc_in [.ref (adr (a0 + 93))] hE hP⟩ rfl rfl hl.1 rfl (lv_room (Nat.le_of_ble_eq_true rfl)) dX11_goBack_44 ⟨Nat.zero_le _, Nat.zero_le _⟩) hS (fun H locs hP hS => ?_)
      refine lv_aload_n hx hb dX11_goBack_47 rfl (lv_at hl 0 rfl) ?_
      refine sm_get (ci := 11) (C := RX11) (T := TX11) (N := 11) (v := .ref (adr (a0 + 1))) hx hb hts hin11 hown hE hP ha0 rfl rfl 0 (by decide) (hts (.fieldLink RX11 12 "OrderMover" "setting" "LOrderMover$Setting;") (by decide +kernel)) (fun _ h9 => h9) rfl dX11_goBack_48 ?_
      obtain ⟨v51_1378, hc51_1380, h⟩ := sm_bd h
      refine sm_ci (va_runV (As := []) (rest := []) ⟨hx, hb, hml, hown, hts⟩ (k_X7_dimension l D cA adr hJ (a0 + 1) (t11_0 ha0) M44_1376 v51_1378 hc51_1380) (cwV 0 hts gX11_goBack_X7_dimension rfl rfl rfl (by decide +kernel) ⟨Nat.le_of_ble_eq_true rfl, Nat.le_of_ble_eq_true rfl⟩) ⟨smPc_bl, smRv hE hP (t11_0 ha0) rfl (ci := 7) (q := (RX7, TX7, 7)) rfl, smPc_in [.ref (adr (a0 + 1))] hE hP⟩ rfl rfl hl.1 rfl (lv_room (Nat.le_of_ble_eq_true rfl)) dX11_goBack_51 ⟨Nat.zero_le _, Nat.zero_le _⟩) hS (fun H locs hP hS => ?_)
      cases h
      exact sm_iret hx hb hr hlocks hP hS dX11_goBack_54
    · rw [if_pos c17_1367] at h
      refine lv_bipush (v := (-2 : Int32)) hx hb dX11_goBack_20 (by decide) ?_
      cases h
      exact sm_iret hx hb hr hlocks hP hS dX11_goBack_22
  · rw [if_pos c6_1365] at h
    refine lv_iconst (v := (-1 : Int32)) hx hb dX11_goBack_9 (by decide) ?_
    cases h
    exact sm_iret hx hb hr hlocks hP hS dX11_goBack_10
set_option maxHeartbeats 4000000 in
set_option maxRecDepth 100000 in
theorem k_X11_image (l : Launch) (D : va_G) (cA : Nat → ClassId) (adr : Nat → Nat) (hJ : smJ 1 adr) (a0 : Nat) (x1 : Int32) (ha0 : smT 1 a0 11) (M : smM) (v1 : Int32) (M1 : smM) (h : m_X11_image a0 x1 M = some (v1, M1)) : Met l yX11_image wsX11_image ({ frames := 1, cells := 0, slots := 0, locals := 22 }) (smPc D cA 1 adr M [.ref (adr a0), .int x1]) (smQi D cA 1 adr M1 v1) 0 0 (smA 1 adr) := by
  refine Met.ofW (cc := cX11_image) (maxL := 2) (ret := (some .int)) (by decide) rfl ?_
  intro p e s m args below meth c s₁ B hml hv
  obtain ⟨rfl, hE, hP⟩ := hv
  have hx := B.exec
  have hb := B.bytes
  have hr := B.returns
  have hts := atoms_spec (ws := wsX11_image) B.pre
  have hown : s.vm.findClass RX11 = some m.cls := findClass_of_methodNamed B.named
  have hlocks := B.notSynchronized
  have hS : va_S (smA 1 adr) s.heap s.heap [] := va_S.rf
  have hP : smP D cA 1 adr M s.heap := hP
  have hl := lv_entry ([.ref (adr a0), .int x1]) (n := 2) (Nat.le_of_ble_eq_true rfl)
  rw [lg_entry_eq]
  generalize (lg_sl ([.ref (adr a0), .int x1]) ++ List.replicate (2 - (lg_sl ([.ref (adr a0), .int x1])).length) Slot.unset).toArray = ls at hl ⊢
  have hl : lv_has ls 2 [(0, .ref (adr a0)), (1, .int x1)] := hl
  unfold m_X11_image at h
  have hin11 : ∀ w ∈ u_ws RX11 TX11 11, w ∈ wsX11_image := by decide +kernel
  refine lv_iload_n hx hb dX11_image_0 rfl (lv_at hl 1 rfl) ?_
  refine lv_iconst (v := (0 : Int32)) hx hb dX11_image_1 (by decide) ?_
  refine lv_iconst (v := (1 : Int32)) hx hb dX11_image_2 (by decide) ?_
  obtain ⟨v3_1381, hc3_1383, h⟩ := sm_bd h
  refine sm_ci (va_runS (As := [.int x1, .int (0 : Int32), .int (1 : Int32)]) (rest := []) ⟨hx, hb, hml, hown, hts⟩ (k_X11_isWithin l D cA adr hJ x1 (0 : Int32) (1 : Int32)  M v3_1381 hc3_1383) (va_cwS 3 hts gX11_image_X11_isWithin rfl rfl rfl (by decide +kernel) ⟨Nat.le_of_ble_eq_true rfl, Nat.le_of_ble_eq_true rfl⟩) ⟨smPc_bl, smPc_in [.int x1, .int (0 : Int32), .int (1 : Int32)] hE hP⟩ rfl rfl hl.1 rfl (lv_room (Nat.le_of_ble_eq_true rfl)) dX11_image_3 ⟨Nat.zero_le _, Nat.zero_le _⟩) hS (fun H locs hP hS => ?_)
  refine lv_if_ne (tgt := 11) hx hb dX11_image_6 (by decide) (fun c6_1384 => ?_) (fun c6_1384 => ?_)
  · rw [if_neg c6_1384] at h
    refine lv_aload_n hx hb dX11_image_11 rfl (lv_at hl 0 rfl) ?_
    refine sm_get (ci := 11) (C := RX11) (T := TX11) (N := 11) (v := .ref (adr (a0 + 4))) hx hb hts hin11 hown hE hP ha0 rfl rfl 1 (by decide) (hts (.fieldLink RX11 16 "OrderMover" "images" "[LOrderMover$Setting;") (by decide +kernel)) (fun _ h9 => h9) rfl dX11_image_12 ?_
    refine lv_iload_n hx hb dX11_image_15 rfl (lv_at hl 1 rfl) ?_
    obtain ⟨c16_1385, h⟩ := sm_ck h
    refine sm_aald23 hx hb hE hP (t11_1 ha0) c16_1385 dX11_image_16 ?_
    refine lv_aload_n hx hb dX11_image_17 rfl (lv_at hl 0 rfl) ?_
    refine sm_get (ci := 11) (C := RX11) (T := TX11) (N := 11) (v := .ref (adr (a0 + 1))) hx hb hts hin11 hown hE hP ha0 rfl rfl 0 (by decide) (hts (.fieldLink RX11 12 "OrderMover" "setting" "LOrderMover$Setting;") (by decide +kernel)) (fun _ h9 => h9) rfl dX11_image_18 ?_
    obtain ⟨M21_1387, hc21_1388, h⟩ := sm_bd h
    refine sm_cv (va_runV (As := [.ref (adr (a0 + 1))]) (rest := []) ⟨hx, hb, hml, hown, hts⟩ (k_X7_copyFrom l D cA adr hJ ((a0 + 4) + 1 + 3 * (x1).toNatClampNeg) (a0 + 1) (te23 (t11_1 ha0) c16_1385) (t11_0 ha0) M M21_1387 hc21_1388) (cwV 1 hts gX11_image_X7_copyFrom rfl rfl rfl (by decide +kernel) ⟨Nat.le_of_ble_eq_true rfl, Nat.le_of_ble_eq_true rfl⟩) ⟨smPc_bl, smRv hE hP (te23 (t11_1 ha0) c16_1385) rfl (ci := 7) (q := (RX7, TX7, 7)) rfl, smPc_in [.ref (adr ((a0 + 4) + 1 + 3 * (x1).toNatClampNeg)), .ref (adr (a0 + 1))] hE hP⟩ rfl rfl hl.1 rfl (lv_room (Nat.le_of_ble_eq_true rfl)) dX11_image_21 ⟨Nat.zero_le _, Nat.zero_le _⟩) hS (fun H locs hP hS => ?_)
    refine lv_aload_n hx hb dX11_image_24 rfl (lv_at hl 0 rfl) ?_
    refine sm_get (ci := 11) (C := RX11) (T := TX11) (N := 11) (v := .ref (adr (a0 + 11))) hx hb hts hin11 hown hE hP ha0 rfl rfl 2 (by decide) (hts (.fieldLink RX11 20 "OrderMover" "imaged" "[Z") (by decide +kernel)) (fun _ h9 => h9) rfl dX11_image_25 ?_
    refine lv_iload_n hx hb dX11_image_28 rfl (lv_at hl 1 rfl) ?_
    refine lv_iconst (v := (1 : Int32)) hx hb dX11_image_29 (by decide) ?_
    obtain ⟨c30_1389, h⟩ := sm_ck h
    refine sm_zast (y := (1 : Int32)) hx hb hE hJ hP hS (t11_2 ha0) (by decide) c30_1389 dX11_image_30 (fun H locs hP hS => ?_)
    obtain ⟨M30_1390, hM, h⟩ := sm_lt h
    rw [← hM] at hP; clear hM
    refine lv_aload_n hx hb dX11_image_31 rfl (lv_at hl 0 rfl) ?_
    refine sm_get (ci := 11) (C := RX11) (T := TX11) (N := 11) (v := .ref (adr (a0 + 1))) hx hb hts hin11 hown hE hP ha0 rfl rfl 0 (by decide) (hts (.fieldLink RX11 12 "OrderMover" "setting" "LOrderMover$Setting;") (by decide +kernel)) (fun _ h9 => h9) rfl dX11_image_32 ?_
    obtain ⟨v35_1391, hc35_1393, h⟩ := sm_bd h
    refine sm_ci (va_runV (As := []) (rest := []) ⟨hx, hb, hml, hown, hts⟩ (k_X7_dimension l D cA adr hJ (a0 + 1) (t11_0 ha0) M30_1390 v35_1391 hc35_1393) (cwV 0 hts gX11_image_X7_dimension rfl rfl rfl (by decide +kernel) ⟨Nat.le_of_ble_eq_true rfl, Nat.le_of_ble_eq_true rfl⟩) ⟨smPc_bl, smRv hE hP (t11_0 ha0) rfl (ci := 7) (q := (RX7, TX7, 7)) rfl, smPc_in [.ref (adr (a0 + 1))] hE hP⟩ rfl rfl hl.1 rfl (lv_room (Nat.le_of_ble_eq_true rfl)) dX11_image_35 ⟨Nat.zero_le _, Nat.zero_le _⟩) hS (fun H locs hP hS => ?_)
    cases h
    exact sm_iret hx hb hr hlocks hP hS dX11_image_38
  · rw [if_pos c6_1384] at h
    refine lv_iconst (v := (-1 : Int32)) hx hb dX11_image_9 (by decide) ?_
    cases h
    exact sm_iret hx hb hr hlocks hP hS dX11_image_10
set_option maxHeartbeats 4000000 in
set_option maxRecDepth 100000 in
theorem k_X11_isStair (l : Launch) (D : va_G) (cA : Nat → ClassId) (adr : Nat → Nat) (hJ : smJ 1 adr) (a0 : Nat) (x1 : Int32) (ha0 : smT 1 a0 11) (M : smM) (v1 : Int32) (h : m_X11_isStair a0 x1 M = some v1) : Met l yX11_isStair wsX11_isStair ({ frames := 1, cells := 0, slots := 0, locals := 22 }) (smPc D cA 1 adr M [.ref (adr a0), .int x1]) (smQi D cA 1 adr M v1) 0 0 (smA 1 adr) := by
  refine Met.ofW (cc := cX11_isStair) (maxL := 2) (ret := (some .boolean)) (by decide) rfl ?_
  intro p e s m args below meth c s₁ B hml hv
  obtain ⟨rfl, hE, hP⟩ := hv
  have hx := B.exec
  have hb := B.bytes
  have hr := B.returns
  have hts := atoms_spec (ws := wsX11_isStair) B.pre
  have hown : s.vm.findClass RX11 = some m.cls := findClass_of_methodNamed B.named
  have hlocks := B.notSynchronized
  have hS : va_S (smA 1 adr) s.heap s.heap [] := va_S.rf
  have hP : smP D cA 1 adr M s.heap := hP
  have hl := lv_entry ([.ref (adr a0), .int x1]) (n := 2) (Nat.le_of_ble_eq_true rfl)
  rw [lg_entry_eq]
  generalize (lg_sl ([.ref (adr a0), .int x1]) ++ List.replicate (2 - (lg_sl ([.ref (adr a0), .int x1])).length) Slot.unset).toArray = ls at hl ⊢
  have hl : lv_has ls 2 [(0, .ref (adr a0)), (1, .int x1)] := hl
  unfold m_X11_isStair at h
  have hin11 : ∀ w ∈ u_ws RX11 TX11 11, w ∈ wsX11_isStair := by decide +kernel
  refine lv_iload_n hx hb dX11_isStair_0 rfl (lv_at hl 1 rfl) ?_
  refine lv_iconst (v := (0 : Int32)) hx hb dX11_isStair_1 (by decide) ?_
  refine lv_aload_n hx hb dX11_isStair_2 rfl (lv_at hl 0 rfl) ?_
  refine sm_get (ci := 11) (C := RX11) (T := TX11) (N := 11) (v := .ref (adr (a0 + 1))) hx hb hts hin11 hown hE hP ha0 rfl rfl 0 (by decide) (hts (.fieldLink RX11 12 "OrderMover" "setting" "LOrderMover$Setting;") (by decide +kernel)) (fun _ h9 => h9) rfl dX11_isStair_3 ?_
  obtain ⟨v6_1394, hc6_1396, h⟩ := sm_bd h
  refine sm_ci (va_runV (As := []) (rest := [.int (0 : Int32), .int x1]) ⟨hx, hb, hml, hown, hts⟩ (k_X7_dimension l D cA adr hJ (a0 + 1) (t11_0 ha0) M v6_1394 hc6_1396) (cwV 0 hts gX11_isStair_X7_dimension rfl rfl rfl (by decide +kernel) ⟨Nat.le_of_ble_eq_true rfl, Nat.le_of_ble_eq_true rfl⟩) ⟨smPc_bl, smRv hE hP (t11_0 ha0) rfl (ci := 7) (q := (RX7, TX7, 7)) rfl, smPc_in [.ref (adr (a0 + 1))] hE hP⟩ rfl rfl hl.1 rfl (lv_room (Nat.le_of_ble_eq_true rfl)) dX11_isStair_6 ⟨Nat.zero_le _, Nat.zero_le _⟩) hS (fun H locs hP hS => ?_)
  refine lv_iconst (v := (1 : Int32)) hx hb dX11_isStair_9 (by decide) ?_
  refine lv_isub hx hb dX11_isStair_10 ?_
  obtain ⟨v11_1397, hc11_1399, h⟩ := sm_bd h
  refine sm_ci (va_runS (As := [.int x1, .int (0 : Int32), .int (v6_1394 - (1 : Int32))]) (rest := []) ⟨hx, hb, hml, hown, hts⟩ (k_X11_isWithin l D cA adr hJ x1 (0 : Int32) (v6_1394 - (1 : Int32))  M v11_1397 hc11_1399) (va_cwS 3 hts gX11_isStair_X11_isWithin rfl rfl rfl (by decide +kernel) ⟨Nat.le_of_ble_eq_true rfl, Nat.le_of_ble_eq_true rfl⟩) ⟨smPc_bl, smPc_in [.int x1, .int (0 : Int32), .int (v6_1394 - (1 : Int32))] hE hP⟩ rfl rfl hl.1 rfl (lv_room (Nat.le_of_ble_eq_true rfl)) dX11_isStair_11 ⟨Nat.zero_le _, Nat.zero_le _⟩) hS (fun H locs hP hS => ?_)
  cases h
  exact sm_zret (by first | rfl | decide) hx hb hr hlocks hP hS dX11_isStair_14
set_option maxHeartbeats 4000000 in
set_option maxRecDepth 100000 in
theorem k_X11_keepBase (l : Launch) (D : va_G) (cA : Nat → ClassId) (adr : Nat → Nat) (hJ : smJ 1 adr) (a0 : Nat) (x1 : Int32) (x2 : Int32) (ha0 : smT 1 a0 11) (M : smM) (v1 : Int32) (M1 : smM) (h : m_X11_keepBase a0 x1 x2 M = some (v1, M1)) : Met l yX11_keepBase wsX11_keepBase ({ frames := 6, cells := 0, slots := 0, locals := 144 }) (smPc D cA 1 adr M [.ref (adr a0), .int x1, .int x2]) (smQi D cA 1 adr M1 v1) 0 0 (smA 1 adr) := by
  refine Met.ofW (cc := cX11_keepBase) (maxL := 3) (ret := (some .int)) (by decide) rfl ?_
  intro p e s m args below meth c s₁ B hml hv
  obtain ⟨rfl, hE, hP⟩ := hv
  have hx := B.exec
  have hb := B.bytes
  have hr := B.returns
  have hts := atoms_spec (ws := wsX11_keepBase) B.pre
  have hown : s.vm.findClass RX11 = some m.cls := findClass_of_methodNamed B.named
  have hlocks := B.notSynchronized
  have hS : va_S (smA 1 adr) s.heap s.heap [] := va_S.rf
  have hP : smP D cA 1 adr M s.heap := hP
  have hl := lv_entry ([.ref (adr a0), .int x1, .int x2]) (n := 3) (Nat.le_of_ble_eq_true rfl)
  rw [lg_entry_eq]
  generalize (lg_sl ([.ref (adr a0), .int x1, .int x2]) ++ List.replicate (3 - (lg_sl ([.ref (adr a0), .int x1, .int x2])).length) Slot.unset).toArray = ls at hl ⊢
  have hl : lv_has ls 3 [(0, .ref (adr a0)), (1, .int x1), (2, .int x2)] := hl
  unfold m_X11_keepBase at h
  have hin4 : ∀ w ∈ u_ws RX4 TX4 4, w ∈ wsX11_keepBase := by decide +kernel
  have hin8 : ∀ w ∈ u_ws RX8 TX8 4, w ∈ wsX11_keepBase := by decide +kernel
  have hin11 : ∀ w ∈ u_ws RX11 TX11 11, w ∈ wsX11_keepBase := by decide +kernel
  refine lv_iload_n hx hb dX11_keepBase_0 rfl (lv_at hl 1 rfl) ?_
  obtain ⟨v1_1400, hc1_1402, h⟩ := sm_bd h
  refine sm_ci (va_runS (As := [.int x1]) (rest := []) ⟨hx, hb, hml, hown, hts⟩ (k_X11_isSlot l D cA adr hJ x1  M v1_1400 hc1_1402) (va_cwS 1 hts gX11_keepBase_X11_isSlot rfl rfl rfl (by decide +kernel) ⟨Nat.le_of_ble_eq_true rfl, Nat.le_of_ble_eq_true rfl⟩) ⟨smPc_bl, smPc_in [.int x1] hE hP⟩ rfl rfl hl.1 rfl (lv_room (Nat.le_of_ble_eq_true rfl)) dX11_keepBase_1 ⟨Nat.zero_le _, Nat.zero_le _⟩) hS (fun H locs hP hS => ?_)
  refine lv_if_eq (tgt := 14) hx hb dX11_keepBase_4 (by decide) (fun c4_1403 => ?_) (fun c4_1403 => ?_)
  · rw [if_pos c4_1403] at h
    refine lv_iconst (v := (-1 : Int32)) hx hb dX11_keepBase_14 (by decide) ?_
    cases h
    exact sm_iret hx hb hr hlocks hP hS dX11_keepBase_15
  · rw [if_neg c4_1403] at h
    refine lv_iload_n hx hb dX11_keepBase_7 rfl (lv_at hl 2 rfl) ?_
    obtain ⟨v8_1404, hc8_1406, h⟩ := sm_bd h
    refine sm_ci (va_runS (As := [.int x2]) (rest := []) ⟨hx, hb, hml, hown, hts⟩ (k_X11_isOrder l D cA adr hJ x2  M v8_1404 hc8_1406) (va_cwS 1 hts gX11_keepBase_X11_isOrder rfl rfl rfl (by decide +kernel) ⟨Nat.le_of_ble_eq_true rfl, Nat.le_of_ble_eq_true rfl⟩) ⟨smPc_bl, smPc_in [.int x2] hE hP⟩ rfl rfl hl.1 rfl (lv_room (Nat.le_of_ble_eq_true rfl)) dX11_keepBase_8 ⟨Nat.zero_le _, Nat.zero_le _⟩) hS (fun H locs hP hS => ?_)
    refine lv_if_ne (tgt := 16) hx hb dX11_keepBase_11 (by decide) (fun c11_1407 => ?_) (fun c11_1407 => ?_)
    · rw [if_neg c11_1407] at h
      refine lv_aload_n hx hb dX11_keepBase_16 rfl (lv_at hl 0 rfl) ?_
      refine sm_get (ci := 11) (C := RX11) (T := TX11) (N := 11) (v := .ref (adr (a0 + 12))) hx hb hts hin11 hown hE hP ha0 rfl rfl 3 (by decide) (hts (.fieldLink RX11 26 "OrderMover" "slots" "[LOrderMover$Slot;") (by decide +kernel)) (fun _ h9 => h9) rfl dX11_keepBase_17 ?_
      refine lv_iload_n hx hb dX11_keepBase_20 rfl (lv_at hl 1 rfl) ?_
      obtain ⟨c21_1408, h⟩ := sm_ck h
      refine sm_aald24 hx hb hE hP (t11_3 ha0) c21_1408 dX11_keepBase_21 ?_
      refine lv_aload_n hx hb dX11_keepBase_22 rfl (lv_at hl 0 rfl) ?_
      refine lv_iload_n hx hb dX11_keepBase_23 rfl (lv_at hl 2 rfl) ?_
      obtain ⟨v24_1409, M24_1410, hc24_1411, h⟩ := sm_bd2 h
      refine sm_cr (va_runV (As := [.int x2]) (rest := [.ref (adr ((a0 + 12) + 1 + 20 * (x1).toNatClampNeg))]) ⟨hx, hb, hml, hown, hts⟩ (k_X11_baseIn l D cA adr hJ a0 x2 ha0 M v24_1409 M24_1410 hc24_1411) (cwV 1 hts gX11_keepBase_X11_baseIn rfl rfl rfl (by decide +kernel) ⟨Nat.le_of_ble_eq_true rfl, Nat.le_of_ble_eq_true rfl⟩) ⟨smPc_bl, smRv hE hP ha0 rfl (ci := 11) (q := (RX11, TX11, 11)) rfl, smPc_in [.ref (adr a0), .int x2] hE hP⟩ rfl rfl hl.1 rfl (lv_room (Nat.le_of_ble_eq_true rfl)) dX11_keepBase_24 ⟨Nat.zero_le _, Nat.zero_le _⟩) hS (fun H locs hk24_1412 hP hS => ?_)
      obtain ⟨M27_1414, hc27_1415, h⟩ := sm_bd h
      refine sm_cv (va_runV (As := [.ref (adr v24_1409)]) (rest := []) ⟨hx, hb, hml, hown, hts⟩ (k_X8_hold l D cA adr hJ ((a0 + 12) + 1 + 20 * (x1).toNatClampNeg) v24_1409 (te24 (t11_3 ha0) c21_1408) hk24_1412 M24_1410 M27_1414 hc27_1415) (cwV 1 hts gX11_keepBase_X8_hold rfl rfl rfl (by decide +kernel) ⟨Nat.le_of_ble_eq_true rfl, Nat.le_of_ble_eq_true rfl⟩) ⟨smPc_bl, smRv hE hP (te24 (t11_3 ha0) c21_1408) rfl (ci := 8) (q := (RX8, TX8, 4)) rfl, smPc_in [.ref (adr ((a0 + 12) + 1 + 20 * (x1).toNatClampNeg)), .ref (adr v24_1409)] hE hP⟩ rfl rfl hl.1 rfl (lv_room (Nat.le_of_ble_eq_true rfl)) dX11_keepBase_27 ⟨Nat.zero_le _, Nat.zero_le _⟩) hS (fun H locs hP hS => ?_)
      refine lv_aload_n hx hb dX11_keepBase_30 rfl (lv_at hl 0 rfl) ?_
      refine sm_get (ci := 11) (C := RX11) (T := TX11) (N := 11) (v := .ref (adr (a0 + 12))) hx hb hts hin11 hown hE hP ha0 rfl rfl 3 (by decide) (hts (.fieldLink RX11 26 "OrderMover" "slots" "[LOrderMover$Slot;") (by decide +kernel)) (fun _ h9 => h9) rfl dX11_keepBase_31 ?_
      refine lv_iload_n hx hb dX11_keepBase_34 rfl (lv_at hl 1 rfl) ?_
      obtain ⟨c35_1416, h⟩ := sm_ck h
      refine sm_aald24 hx hb hE hP (t11_3 ha0) c35_1416 dX11_keepBase_35 ?_
      refine sm_get (ci := 8) (C := RX8) (T := TX8) (N := 4) (v := .ref (adr (((a0 + 12) + 1 + 20 * (x1).toNatClampNeg) + 6))) hx hb hts hin8 hown hE hP (te24 (t11_3 ha0) c35_1416) rfl rfl 3 (by decide) (hts (.fieldLink RX11 265 "OrderMover$Slot" "members" "LOrderMover$Members;") (by decide +kernel)) (fun _ h9 => h9) rfl dX11_keepBase_36 ?_
      refine sm_get (ci := 4) (C := RX4) (T := TX4) (N := 4) (v := .int (M27_1414 (((a0 + 12) + 1 + 20 * (x1).toNatClampNeg) + 6) 0)) hx hb hts hin4 hown hE hP (t8_3 (te24 (t11_3 ha0) c35_1416)) rfl rfl 0 (by decide) (hts (.fieldLink RX11 165 "OrderMover$Members" "howMany" "I") (by decide +kernel)) (fun _ h9 => h9) rfl dX11_keepBase_39 ?_
      cases h
      exact sm_iret hx hb hr hlocks hP hS dX11_keepBase_42
    · rw [if_pos c11_1407] at h
      refine lv_iconst (v := (-1 : Int32)) hx hb dX11_keepBase_14 (by decide) ?_
      cases h
      exact sm_iret hx hb hr hlocks hP hS dX11_keepBase_15
set_option maxHeartbeats 4000000 in
set_option maxRecDepth 100000 in
theorem k_X11_kept (l : Launch) (D : va_G) (cA : Nat → ClassId) (adr : Nat → Nat) (hJ : smJ 1 adr) (a0 : Nat) (x1 : Int32) (x2 : Int32) (ha0 : smT 1 a0 11) (M : smM) (v1 : Int32) (h : m_X11_kept a0 x1 x2 M = some v1) : Met l yX11_kept wsX11_kept ({ frames := 2, cells := 0, slots := 0, locals := 42 }) (smPc D cA 1 adr M [.ref (adr a0), .int x1, .int x2]) (smQi D cA 1 adr M v1) 0 0 (smA 1 adr) := by
  refine Met.ofW (cc := cX11_kept) (maxL := 5) (ret := (some .int)) (by decide) rfl ?_
  intro p e s m args below meth c s₁ B hml hv
  obtain ⟨rfl, hE, hP⟩ := hv
  have hx := B.exec
  have hb := B.bytes
  have hr := B.returns
  have hts := atoms_spec (ws := wsX11_kept) B.pre
  have hown : s.vm.findClass RX11 = some m.cls := findClass_of_methodNamed B.named
  have hlocks := B.notSynchronized
  have hS : va_S (smA 1 adr) s.heap s.heap [] := va_S.rf
  have hP : smP D cA 1 adr M s.heap := hP
  have hl := lv_entry ([.ref (adr a0), .int x1, .int x2]) (n := 5) (Nat.le_of_ble_eq_true rfl)
  rw [lg_entry_eq]
  generalize (lg_sl ([.ref (adr a0), .int x1, .int x2]) ++ List.replicate (5 - (lg_sl ([.ref (adr a0), .int x1, .int x2])).length) Slot.unset).toArray = ls at hl ⊢
  have hl : lv_has ls 5 [(0, .ref (adr a0)), (1, .int x1), (2, .int x2)] := hl
  unfold m_X11_kept at h
  have hin8 : ∀ w ∈ u_ws RX8 TX8 4, w ∈ wsX11_kept := by decide +kernel
  have hin10 : ∀ w ∈ u_ws RX10 TX10 3, w ∈ wsX11_kept := by decide +kernel
  have hin11 : ∀ w ∈ u_ws RX11 TX11 11, w ∈ wsX11_kept := by decide +kernel
  refine lv_iload_n hx hb dX11_kept_0 rfl (lv_at hl 1 rfl) ?_
  obtain ⟨v1_1417, hc1_1419, h⟩ := sm_bd h
  refine sm_ci (va_runS (As := [.int x1]) (rest := []) ⟨hx, hb, hml, hown, hts⟩ (k_X11_isSlot l D cA adr hJ x1  M v1_1417 hc1_1419) (va_cwS 1 hts gX11_kept_X11_isSlot rfl rfl rfl (by decide +kernel) ⟨Nat.le_of_ble_eq_true rfl, Nat.le_of_ble_eq_true rfl⟩) ⟨smPc_bl, smPc_in [.int x1] hE hP⟩ rfl rfl hl.1 rfl (lv_room (Nat.le_of_ble_eq_true rfl)) dX11_kept_1 ⟨Nat.zero_le _, Nat.zero_le _⟩) hS (fun H locs hP hS => ?_)
  refine lv_if_eq (tgt := 16) hx hb dX11_kept_4 (by decide) (fun c4_1420 => ?_) (fun c4_1420 => ?_)
  · rw [if_pos c4_1420] at h
    refine lv_iconst (v := (-1 : Int32)) hx hb dX11_kept_16 (by decide) ?_
    cases h
    exact sm_iret hx hb hr hlocks hP hS dX11_kept_17
  · rw [if_neg c4_1420] at h
    refine lv_iload_n hx hb dX11_kept_7 rfl (lv_at hl 2 rfl) ?_
    refine lv_iconst (v := (0 : Int32)) hx hb dX11_kept_8 (by decide) ?_
    refine lv_iconst (v := (1 : Int32)) hx hb dX11_kept_9 (by decide) ?_
    obtain ⟨v10_1421, hc10_1423, h⟩ := sm_bd h
    refine sm_ci (va_runS (As := [.int x2, .int (0 : Int32), .int (1 : Int32)]) (rest := []) ⟨hx, hb, hml, hown, hts⟩ (k_X11_isWithin l D cA adr hJ x2 (0 : Int32) (1 : Int32)  M v10_1421 hc10_1423) (va_cwS 3 hts gX11_kept_X11_isWithin rfl rfl rfl (by decide +kernel) ⟨Nat.le_of_ble_eq_true rfl, Nat.le_of_ble_eq_true rfl⟩) ⟨smPc_bl, smPc_in [.int x2, .int (0 : Int32), .int (1 : Int32)] hE hP⟩ rfl rfl hl.1 rfl (lv_room (Nat.le_of_ble_eq_true rfl)) dX11_kept_10 ⟨Nat.zero_le _, Nat.zero_le _⟩) hS (fun H locs hP hS => ?_)
    refine lv_if_ne (tgt := 18) hx hb dX11_kept_13 (by decide) (fun c13_1424 => ?_) (fun c13_1424 => ?_)
    · rw [if_neg c13_1424] at h
      refine lv_aload_n hx hb dX11_kept_18 rfl (lv_at hl 0 rfl) ?_
      refine sm_get (ci := 11) (C := RX11) (T := TX11) (N := 11) (v := .ref (adr (a0 + 12))) hx hb hts hin11 hown hE hP ha0 rfl rfl 3 (by decide) (hts (.fieldLink RX11 26 "OrderMover" "slots" "[LOrderMover$Slot;") (by decide +kernel)) (fun _ h9 => h9) rfl dX11_kept_19 ?_
      refine lv_iload_n hx hb dX11_kept_22 rfl (lv_at hl 1 rfl) ?_
      obtain ⟨c23_1425, h⟩ := sm_ck h
      refine sm_aald24 hx hb hE hP (t11_3 ha0) c23_1425 dX11_kept_23 ?_
      refine lv_iconst (v := (2 : Int32)) hx hb dX11_kept_24 (by decide) ?_
      obtain ⟨v25_1426, hc25_1428, h⟩ := sm_bd h
      refine sm_ci (va_runV (As := [.int (2 : Int32)]) (rest := []) ⟨hx, hb, hml, hown, hts⟩ (k_X8_findWanting l D cA adr hJ ((a0 + 12) + 1 + 20 * (x1).toNatClampNeg) (2 : Int32) (te24 (t11_3 ha0) c23_1425) M v25_1426 hc25_1428) (cwV 1 hts gX11_kept_X8_findWanting rfl rfl rfl (by decide +kernel) ⟨Nat.le_of_ble_eq_true rfl, Nat.le_of_ble_eq_true rfl⟩) ⟨smPc_bl, smRv hE hP (te24 (t11_3 ha0) c23_1425) rfl (ci := 8) (q := (RX8, TX8, 4)) rfl, smPc_in [.ref (adr ((a0 + 12) + 1 + 20 * (x1).toNatClampNeg)), .int (2 : Int32)] hE hP⟩ rfl rfl hl.1 rfl (lv_room (Nat.le_of_ble_eq_true rfl)) dX11_kept_25 ⟨Nat.zero_le _, Nat.zero_le _⟩) hS (fun H locs hP hS => ?_)
      refine lv_istore_n (lv' := [(3, .int v25_1426), (0, .ref (adr a0)), (1, .int x1), (2, .int x2)]) hx hb dX11_kept_28 rfl hl (by decide) rfl (fun ls hl => ?_)
      refine lv_iload_n hx hb dX11_kept_29 rfl (lv_at hl 0 rfl) ?_
      refine lv_if_eq (tgt := 35) hx hb dX11_kept_30 (by decide) (fun c30_1429 => ?_) (fun c30_1429 => ?_)
      · rw [if_pos c30_1429] at h
        refine lv_aload_n hx hb dX11_kept_35 rfl (lv_at hl 1 rfl) ?_
        refine sm_get (ci := 11) (C := RX11) (T := TX11) (N := 11) (v := .ref (adr (a0 + 12))) hx hb hts hin11 hown hE hP ha0 rfl rfl 3 (by decide) (hts (.fieldLink RX11 26 "OrderMover" "slots" "[LOrderMover$Slot;") (by decide +kernel)) (fun _ h9 => h9) rfl dX11_kept_36 ?_
        refine lv_iload_n hx hb dX11_kept_39 rfl (lv_at hl 2 rfl) ?_
        obtain ⟨c40_1430, h⟩ := sm_ck h
        refine sm_aald24 hx hb hE hP (t11_3 ha0) c40_1430 dX11_kept_40 ?_
        refine sm_get (ci := 8) (C := RX8) (T := TX8) (N := 4) (v := .ref (adr (((a0 + 12) + 1 + 20 * (x1).toNatClampNeg) + 5))) hx hb hts hin8 hown hE hP (te24 (t11_3 ha0) c40_1430) rfl rfl 2 (by decide) (hts (.fieldLink RX11 319 "OrderMover$Slot" "order" "LOrderMover$TermOrder;") (by decide +kernel)) (fun _ h9 => h9) rfl dX11_kept_41 ?_
        refine lv_astore (lv' := [(4, .ref (adr (((a0 + 12) + 1 + 20 * (x1).toNatClampNeg) + 5))), (3, .int v25_1426), (0, .ref (adr a0)), (1, .int x1), (2, .int x2)]) hx hb dX11_kept_44 hl (by decide) rfl (fun ls hl => ?_)
        refine lv_iload_n hx hb dX11_kept_46 rfl (lv_at hl 4 rfl) ?_
        refine lv_if_ne (tgt := 58) hx hb dX11_kept_47 (by decide) (fun c47_1431 => ?_) (fun c47_1431 => ?_)
        · rw [if_neg c47_1431] at h
          refine lv_bipush (v := (10 : Int32)) hx hb dX11_kept_58 (by decide) ?_
          refine lv_aload hx hb dX11_kept_60 (lv_at hl 0 rfl) ?_
          refine sm_get (ci := 10) (C := RX10) (T := TX10) (N := 3) (v := .int (M (((a0 + 12) + 1 + 20 * (x1).toNatClampNeg) + 5) 1)) hx hb hts hin10 hown hE hP (t8_2 (te24 (t11_3 ha0) c40_1430)) rfl rfl 1 (by decide) (hts (.fieldLink RX11 325 "OrderMover$TermOrder" "u" "I") (by decide +kernel)) (fun _ h9 => h9) rfl dX11_kept_62 ?_
          refine lv_imul hx hb dX11_kept_65 ?_
          refine lv_aload hx hb dX11_kept_66 (lv_at hl 0 rfl) ?_
          refine sm_get (ci := 10) (C := RX10) (T := TX10) (N := 3) (v := .int (M (((a0 + 12) + 1 + 20 * (x1).toNatClampNeg) + 5) 2)) hx hb hts hin10 hown hE hP (t8_2 (te24 (t11_3 ha0) c40_1430)) rfl rfl 2 (by decide) (hts (.fieldLink RX11 326 "OrderMover$TermOrder" "v" "I") (by decide +kernel)) (fun _ h9 => h9) rfl dX11_kept_68 ?_
          refine lv_iadd hx hb dX11_kept_71 ?_
          cases h
          exact sm_iret hx hb hr hlocks hP hS dX11_kept_72
        · rw [if_pos c47_1431] at h
          refine lv_aload hx hb dX11_kept_50 (lv_at hl 0 rfl) ?_
          refine sm_get (ci := 10) (C := RX10) (T := TX10) (N := 3) (v := .int (M (((a0 + 12) + 1 + 20 * (x1).toNatClampNeg) + 5) 0)) hx hb hts hin10 hown hE hP (t8_2 (te24 (t11_3 ha0) c40_1430)) rfl rfl 0 (by decide) (hts (.fieldLink RX11 322 "OrderMover$TermOrder" "kind" "I") (by decide +kernel)) (fun _ h9 => h9) rfl dX11_kept_52 ?_
          refine lv_goto (tgt := 72) hx hb dX11_kept_55 (by decide) ?_
          cases h
          exact sm_iret hx hb hr hlocks hP hS dX11_kept_72
      · rw [if_neg c30_1429] at h
        refine lv_iload_n hx hb dX11_kept_33 rfl (lv_at hl 0 rfl) ?_
        cases h
        exact sm_iret hx hb hr hlocks hP hS dX11_kept_34
    · rw [if_pos c13_1424] at h
      refine lv_iconst (v := (-1 : Int32)) hx hb dX11_kept_16 (by decide) ?_
      cases h
      exact sm_iret hx hb hr hlocks hP hS dX11_kept_17
set_option maxHeartbeats 4000000 in
set_option maxRecDepth 100000 in
theorem k_X11_leads (l : Launch) (D : va_G) (cA : Nat → ClassId) (adr : Nat → Nat) (hJ : smJ 1 adr) (a0 : Nat) (x1 : Int32) (x2 : Int32) (ha0 : smT 1 a0 11) (M : smM) (v1 : Int32) (M1 : smM) (h : m_X11_leads a0 x1 x2 M = some (v1, M1)) : Met l yX11_leads wsX11_leads ({ frames := 3, cells := 0, slots := 0, locals := 74 }) (smPc D cA 1 adr M [.ref (adr a0), .int x1, .int x2]) (smQi D cA 1 adr M1 v1) 0 0 (smA 1 adr) := by
  refine Met.ofW (cc := cX11_leads) (maxL := 5) (ret := (some .int)) (by decide) rfl ?_
  intro p e s m args below meth c s₁ B hml hv
  obtain ⟨rfl, hE, hP⟩ := hv
  have hx := B.exec
  have hb := B.bytes
  have hr := B.returns
  have hts := atoms_spec (ws := wsX11_leads) B.pre
  have hown : s.vm.findClass RX11 = some m.cls := findClass_of_methodNamed B.named
  have hlocks := B.notSynchronized
  have hS : va_S (smA 1 adr) s.heap s.heap [] := va_S.rf
  have hP : smP D cA 1 adr M s.heap := hP
  have hl := lv_entry ([.ref (adr a0), .int x1, .int x2]) (n := 5) (Nat.le_of_ble_eq_true rfl)
  rw [lg_entry_eq]
  generalize (lg_sl ([.ref (adr a0), .int x1, .int x2]) ++ List.replicate (5 - (lg_sl ([.ref (adr a0), .int x1, .int x2])).length) Slot.unset).toArray = ls at hl ⊢
  have hl : lv_has ls 5 [(0, .ref (adr a0)), (1, .int x1), (2, .int x2)] := hl
  unfold m_X11_leads at h
  have hin5 : ∀ w ∈ u_ws RX5 TX5 4, w ∈ wsX11_leads := by decide +kernel
  have hin7 : ∀ w ∈ u_ws RX7 TX7 7, w ∈ wsX11_leads := by decide +kernel
  have hin8 : ∀ w ∈ u_ws RX8 TX8 4, w ∈ wsX11_leads := by decide +kernel
  have hin11 : ∀ w ∈ u_ws RX11 TX11 11, w ∈ wsX11_leads := by decide +kernel
  refine lv_iload_n hx hb dX11_leads_0 rfl (lv_at hl 1 rfl) ?_
  obtain ⟨v1_1432, hc1_1434, h⟩ := sm_bd h
  refine sm_ci (va_runS (As := [.int x1]) (rest := []) ⟨hx, hb, hml, hown, hts⟩ (k_X11_isSlot l D cA adr hJ x1  M v1_1432 hc1_1434) (va_cwS 1 hts gX11_leads_X11_isSlot rfl rfl rfl (by decide +kernel) ⟨Nat.le_of_ble_eq_true rfl, Nat.le_of_ble_eq_true rfl⟩) ⟨smPc_bl, smPc_in [.int x1] hE hP⟩ rfl rfl hl.1 rfl (lv_room (Nat.le_of_ble_eq_true rfl)) dX11_leads_1 ⟨Nat.zero_le _, Nat.zero_le _⟩) hS (fun H locs hP hS => ?_)
  refine lv_if_eq (tgt := 14) hx hb dX11_leads_4 (by decide) (fun c4_1435 => ?_) (fun c4_1435 => ?_)
  · rw [if_pos c4_1435] at h
    refine lv_iconst (v := (-1 : Int32)) hx hb dX11_leads_14 (by decide) ?_
    cases h
    exact sm_iret hx hb hr hlocks hP hS dX11_leads_15
  · rw [if_neg c4_1435] at h
    refine lv_iload_n hx hb dX11_leads_7 rfl (lv_at hl 2 rfl) ?_
    obtain ⟨v8_1436, hc8_1438, h⟩ := sm_bd h
    refine sm_ci (va_runS (As := [.int x2]) (rest := []) ⟨hx, hb, hml, hown, hts⟩ (k_X11_isOrder l D cA adr hJ x2  M v8_1436 hc8_1438) (va_cwS 1 hts gX11_leads_X11_isOrder rfl rfl rfl (by decide +kernel) ⟨Nat.le_of_ble_eq_true rfl, Nat.le_of_ble_eq_true rfl⟩) ⟨smPc_bl, smPc_in [.int x2] hE hP⟩ rfl rfl hl.1 rfl (lv_room (Nat.le_of_ble_eq_true rfl)) dX11_leads_8 ⟨Nat.zero_le _, Nat.zero_le _⟩) hS (fun H locs hP hS => ?_)
    refine lv_if_ne (tgt := 16) hx hb dX11_leads_11 (by decide) (fun c11_1439 => ?_) (fun c11_1439 => ?_)
    · rw [if_neg c11_1439] at h
      refine lv_aload_n hx hb dX11_leads_16 rfl (lv_at hl 0 rfl) ?_
      refine sm_get (ci := 11) (C := RX11) (T := TX11) (N := 11) (v := .ref (adr (a0 + 12))) hx hb hts hin11 hown hE hP ha0 rfl rfl 3 (by decide) (hts (.fieldLink RX11 26 "OrderMover" "slots" "[LOrderMover$Slot;") (by decide +kernel)) (fun _ h9 => h9) rfl dX11_leads_17 ?_
      refine lv_iload_n hx hb dX11_leads_20 rfl (lv_at hl 1 rfl) ?_
      obtain ⟨c21_1440, h⟩ := sm_ck h
      refine sm_aald24 hx hb hE hP (t11_3 ha0) c21_1440 dX11_leads_21 ?_
      refine lv_iconst (v := (1 : Int32)) hx hb dX11_leads_22 (by decide) ?_
      obtain ⟨v23_1441, hc23_1443, h⟩ := sm_bd h
      refine sm_ci (va_runV (As := [.int (1 : Int32)]) (rest := []) ⟨hx, hb, hml, hown, hts⟩ (k_X8_findWanting l D cA adr hJ ((a0 + 12) + 1 + 20 * (x1).toNatClampNeg) (1 : Int32) (te24 (t11_3 ha0) c21_1440) M v23_1441 hc23_1443) (cwV 1 hts gX11_leads_X8_findWanting rfl rfl rfl (by decide +kernel) ⟨Nat.le_of_ble_eq_true rfl, Nat.le_of_ble_eq_true rfl⟩) ⟨smPc_bl, smRv hE hP (te24 (t11_3 ha0) c21_1440) rfl (ci := 8) (q := (RX8, TX8, 4)) rfl, smPc_in [.ref (adr ((a0 + 12) + 1 + 20 * (x1).toNatClampNeg)), .int (1 : Int32)] hE hP⟩ rfl rfl hl.1 rfl (lv_room (Nat.le_of_ble_eq_true rfl)) dX11_leads_23 ⟨Nat.zero_le _, Nat.zero_le _⟩) hS (fun H locs hP hS => ?_)
      refine lv_istore_n (lv' := [(3, .int v23_1441), (0, .ref (adr a0)), (1, .int x1), (2, .int x2)]) hx hb dX11_leads_26 rfl hl (by decide) rfl (fun ls hl => ?_)
      refine lv_iload_n hx hb dX11_leads_27 rfl (lv_at hl 0 rfl) ?_
      refine lv_if_eq (tgt := 33) hx hb dX11_leads_28 (by decide) (fun c28_1444 => ?_) (fun c28_1444 => ?_)
      · rw [if_pos c28_1444] at h
        refine lv_aload_n hx hb dX11_leads_33 rfl (lv_at hl 1 rfl) ?_
        refine sm_get (ci := 11) (C := RX11) (T := TX11) (N := 11) (v := .ref (adr (a0 + 12))) hx hb hts hin11 hown hE hP ha0 rfl rfl 3 (by decide) (hts (.fieldLink RX11 26 "OrderMover" "slots" "[LOrderMover$Slot;") (by decide +kernel)) (fun _ h9 => h9) rfl dX11_leads_34 ?_
        refine lv_iload_n hx hb dX11_leads_37 rfl (lv_at hl 2 rfl) ?_
        obtain ⟨c38_1445, h⟩ := sm_ck h
        refine sm_aald24 hx hb hE hP (t11_3 ha0) c38_1445 dX11_leads_38 ?_
        refine sm_get (ci := 8) (C := RX8) (T := TX8) (N := 4) (v := .ref (adr (((a0 + 12) + 1 + 20 * (x1).toNatClampNeg) + 1))) hx hb hts hin8 hown hE hP (te24 (t11_3 ha0) c38_1445) rfl rfl 1 (by decide) (hts (.fieldLink RX11 255 "OrderMover$Slot" "polynomial" "LOrderMover$Polynomial;") (by decide +kernel)) (fun _ h9 => h9) rfl dX11_leads_39 ?_
        refine lv_astore (lv' := [(4, .ref (adr (((a0 + 12) + 1 + 20 * (x1).toNatClampNeg) + 1))), (3, .int v23_1441), (0, .ref (adr a0)), (1, .int x1), (2, .int x2)]) hx hb dX11_leads_42 hl (by decide) rfl (fun ls hl => ?_)
        refine lv_aload hx hb dX11_leads_44 (lv_at hl 0 rfl) ?_
        refine sm_get (ci := 5) (C := RX5) (T := TX5) (N := 4) (v := .int (M (((a0 + 12) + 1 + 20 * (x1).toNatClampNeg) + 1) 0)) hx hb hts hin5 hown hE hP (t8_1 (te24 (t11_3 ha0) c38_1445)) rfl rfl 0 (by decide) (hts (.fieldLink RX11 279 "OrderMover$Polynomial" "howMany" "I") (by decide +kernel)) (fun _ h9 => h9) rfl dX11_leads_46 ?_
        refine lv_if_ne (tgt := 55) hx hb dX11_leads_49 (by decide) (fun c49_1446 => ?_) (fun c49_1446 => ?_)
        · rw [if_neg c49_1446] at h
          refine lv_aload_n hx hb dX11_leads_55 rfl (lv_at hl 2 rfl) ?_
          refine sm_get (ci := 11) (C := RX11) (T := TX11) (N := 11) (v := .ref (adr (a0 + 499))) hx hb hts hin11 hown hE hP ha0 rfl rfl 6 (by decide) (hts (.fieldLink RX11 47 "OrderMover" "asked" "LOrderMover$TermOrder;") (by decide +kernel)) (fun _ h9 => h9) rfl dX11_leads_56 ?_
          refine lv_iload_n hx hb dX11_leads_59 rfl (lv_at hl 4 rfl) ?_
          refine lv_aload_n hx hb dX11_leads_60 rfl (lv_at hl 2 rfl) ?_
          refine sm_get (ci := 11) (C := RX11) (T := TX11) (N := 11) (v := .ref (adr (a0 + 1))) hx hb hts hin11 hown hE hP ha0 rfl rfl 0 (by decide) (hts (.fieldLink RX11 12 "OrderMover" "setting" "LOrderMover$Setting;") (by decide +kernel)) (fun _ h9 => h9) rfl dX11_leads_61 ?_
          refine sm_get (ci := 7) (C := RX7) (T := TX7) (N := 7) (v := .int (M (a0 + 1) 3)) hx hb hts hin7 hown hE hP (t11_0 ha0) rfl rfl 3 (by decide) (hts (.fieldLink RX11 114 "OrderMover$Setting" "u" "I") (by decide +kernel)) (fun _ h9 => h9) rfl dX11_leads_64 ?_
          refine lv_aload_n hx hb dX11_leads_67 rfl (lv_at hl 2 rfl) ?_
          refine sm_get (ci := 11) (C := RX11) (T := TX11) (N := 11) (v := .ref (adr (a0 + 1))) hx hb hts hin11 hown hE hP ha0 rfl rfl 0 (by decide) (hts (.fieldLink RX11 12 "OrderMover" "setting" "LOrderMover$Setting;") (by decide +kernel)) (fun _ h9 => h9) rfl dX11_leads_68 ?_
          refine sm_get (ci := 7) (C := RX7) (T := TX7) (N := 7) (v := .int (M (a0 + 1) 4)) hx hb hts hin7 hown hE hP (t11_0 ha0) rfl rfl 4 (by decide) (hts (.fieldLink RX11 117 "OrderMover$Setting" "v" "I") (by decide +kernel)) (fun _ h9 => h9) rfl dX11_leads_71 ?_
          obtain ⟨M74_1448, hc74_1449, h⟩ := sm_bd h
          refine sm_cv (va_runV (As := [.int x2, .int (M (a0 + 1) 3), .int (M (a0 + 1) 4)]) (rest := []) ⟨hx, hb, hml, hown, hts⟩ (k_X10_become l D cA adr hJ (a0 + 499) x2 (M (a0 + 1) 3) (M (a0 + 1) 4) (t11_6 ha0) M M74_1448 hc74_1449) (cwV 3 hts gX11_leads_X10_become rfl rfl rfl (by decide +kernel) ⟨Nat.le_of_ble_eq_true rfl, Nat.le_of_ble_eq_true rfl⟩) ⟨smPc_bl, smRv hE hP (t11_6 ha0) rfl (ci := 10) (q := (RX10, TX10, 3)) rfl, smPc_in [.ref (adr (a0 + 499)), .int x2, .int (M (a0 + 1) 3), .int (M (a0 + 1) 4)] hE hP⟩ rfl rfl hl.1 rfl (lv_room (Nat.le_of_ble_eq_true rfl)) dX11_leads_74 ⟨Nat.zero_le _, Nat.zero_le _⟩) hS (fun H locs hP hS => ?_)
          refine lv_aload hx hb dX11_leads_77 (lv_at hl 0 rfl) ?_
          refine lv_aload_n hx hb dX11_leads_79 rfl (lv_at hl 2 rfl) ?_
          refine sm_get (ci := 11) (C := RX11) (T := TX11) (N := 11) (v := .ref (adr (a0 + 499))) hx hb hts hin11 hown hE hP ha0 rfl rfl 6 (by decide) (hts (.fieldLink RX11 47 "OrderMover" "asked" "LOrderMover$TermOrder;") (by decide +kernel)) (fun _ h9 => h9) rfl dX11_leads_80 ?_
          obtain ⟨v83_1450, hc83_1452, h⟩ := sm_bd h
          refine sm_ci (va_runV (As := [.ref (adr (a0 + 499))]) (rest := []) ⟨hx, hb, hml, hown, hts⟩ (k_X5_canCompare l D cA adr hJ (((a0 + 12) + 1 + 20 * (x1).toNatClampNeg) + 1) (a0 + 499) (t8_1 (te24 (t11_3 ha0) c38_1445)) (t11_6 ha0) M74_1448 v83_1450 hc83_1452) (cwV 1 hts gX11_leads_X5_canCompare rfl rfl rfl (by decide +kernel) ⟨Nat.le_of_ble_eq_true rfl, Nat.le_of_ble_eq_true rfl⟩) ⟨smPc_bl, smRv hE hP (t8_1 (te24 (t11_3 ha0) c38_1445)) rfl (ci := 5) (q := (RX5, TX5, 4)) rfl, smPc_in [.ref (adr (((a0 + 12) + 1 + 20 * (x1).toNatClampNeg) + 1)), .ref (adr (a0 + 499))] hE hP⟩ rfl rfl hl.1 rfl (lv_room (Nat.le_of_ble_eq_true rfl)) dX11_leads_83 ⟨Nat.zero_le _, Nat.zero_le _⟩) hS (fun H locs hP hS => ?_)
          refine lv_if_eq (tgt := 101) hx hb dX11_leads_86 (by decide) (fun c86_1453 => ?_) (fun c86_1453 => ?_)
          · rw [if_pos c86_1453] at h
            refine lv_bipush (v := (-13 : Int32)) hx hb dX11_leads_101 (by decide) ?_
            cases h
            exact sm_iret hx hb hr hlocks hP hS dX11_leads_103
          · rw [if_neg c86_1453] at h
            refine lv_aload hx hb dX11_leads_89 (lv_at hl 0 rfl) ?_
            refine lv_aload_n hx hb dX11_leads_91 rfl (lv_at hl 2 rfl) ?_
            refine sm_get (ci := 11) (C := RX11) (T := TX11) (N := 11) (v := .ref (adr (a0 + 499))) hx hb hts hin11 hown hE hP ha0 rfl rfl 6 (by decide) (hts (.fieldLink RX11 47 "OrderMover" "asked" "LOrderMover$TermOrder;") (by decide +kernel)) (fun _ h9 => h9) rfl dX11_leads_92 ?_
            obtain ⟨v95_1454, hc95_1456, h⟩ := sm_bd h
            refine sm_ci (va_runV (As := [.ref (adr (a0 + 499))]) (rest := []) ⟨hx, hb, hml, hown, hts⟩ (k_X5_greatestIn l D cA adr hJ (((a0 + 12) + 1 + 20 * (x1).toNatClampNeg) + 1) (a0 + 499) (t8_1 (te24 (t11_3 ha0) c38_1445)) (t11_6 ha0) M74_1448 v95_1454 hc95_1456) (cwV 1 hts gX11_leads_X5_greatestIn rfl rfl rfl (by decide +kernel) ⟨Nat.le_of_ble_eq_true rfl, Nat.le_of_ble_eq_true rfl⟩) ⟨smPc_bl, smRv hE hP (t8_1 (te24 (t11_3 ha0) c38_1445)) rfl (ci := 5) (q := (RX5, TX5, 4)) rfl, smPc_in [.ref (adr (((a0 + 12) + 1 + 20 * (x1).toNatClampNeg) + 1)), .ref (adr (a0 + 499))] hE hP⟩ rfl rfl hl.1 rfl (lv_room (Nat.le_of_ble_eq_true rfl)) dX11_leads_95 ⟨Nat.zero_le _, Nat.zero_le _⟩) hS (fun H locs hP hS => ?_)
            refine lv_goto (tgt := 103) hx hb dX11_leads_98 (by decide) ?_
            cases h
            exact sm_iret hx hb hr hlocks hP hS dX11_leads_103
        · rw [if_pos c49_1446] at h
          refine lv_bipush (v := (-4 : Int32)) hx hb dX11_leads_52 (by decide) ?_
          cases h
          exact sm_iret hx hb hr hlocks hP hS dX11_leads_54
      · rw [if_neg c28_1444] at h
        refine lv_iload_n hx hb dX11_leads_31 rfl (lv_at hl 0 rfl) ?_
        cases h
        exact sm_iret hx hb hr hlocks hP hS dX11_leads_32
    · rw [if_pos c11_1439] at h
      refine lv_iconst (v := (-1 : Int32)) hx hb dX11_leads_14 (by decide) ?_
      cases h
      exact sm_iret hx hb hr hlocks hP hS dX11_leads_15
