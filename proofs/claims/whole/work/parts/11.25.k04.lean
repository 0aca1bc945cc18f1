set_option maxHeartbeats 4000000 in
set_option maxRecDepth 100000 in
theorem k_X6_fillForm (l : Launch) (D : va_G) (cA : Nat → ClassId) (adr : Nat → Nat) (hJ : smJ 1 adr) (a0 : Nat) (a1 : Nat) (x2 : Int32) (x3 : Int32) (ha0 : smT 1 a0 6) (ha1 : smT 1 a1 7) (M : smM) (M1 : smM) (h : m_X6_fillForm a0 a1 x2 x3 M = some M1) : Met l yX6_fillForm wsX6_fillForm ({ frames := 2, cells := 0, slots := 0, locals := 54 }) (smPc D cA 1 adr M [.ref (adr a0), .ref (adr a1), .int x2, .int x3]) (smQv D cA 1 adr M1) 0 0 (smA 1 adr) := by
  refine Met.ofW (cc := cX6_fillForm) (maxL := 5) (ret := none) (by decide) rfl ?_
  intro p e s m args below meth c s₁ B hml hv
  obtain ⟨rfl, hE, hP⟩ := hv
  have hx := B.exec
  have hb := B.bytes
  have hr := B.returns
  have hts := atoms_spec (ws := wsX6_fillForm) B.pre
  have hown : s.vm.findClass RX6 = some m.cls := findClass_of_methodNamed B.named
  have hlocks := B.notSynchronized
  have hS : va_S (smA 1 adr) s.heap s.heap [] := va_S.rf
  have hP : smP D cA 1 adr M s.heap := hP
  have hl := lv_entry ([.ref (adr a0), .ref (adr a1), .int x2, .int x3]) (n := 5) (Nat.le_of_ble_eq_true rfl)
  rw [lg_entry_eq]
  generalize (lg_sl ([.ref (adr a0), .ref (adr a1), .int x2, .int x3]) ++ List.replicate (5 - (lg_sl ([.ref (adr a0), .ref (adr a1), .int x2, .int x3])).length) Slot.unset).toArray = ls at hl ⊢
  have hl : lv_has ls 5 [(0, .ref (adr a0)), (1, .ref (adr a1)), (2, .int x2), (3, .int x3)] := hl
  unfold m_X6_fillForm at h
  have hin6 : ∀ w ∈ u_ws RX6 TX6 5, w ∈ wsX6_fillForm := by decide +kernel
  refine lv_aload_n hx hb dX6_fillForm_0 rfl (lv_at hl 0 rfl) ?_
  refine lv_iload_n hx hb dX6_fillForm_1 rfl (lv_at hl 2 rfl) ?_
  refine lv_iload_n hx hb dX6_fillForm_2 rfl (lv_at hl 3 rfl) ?_
  obtain ⟨v3_378, hc3_380, h⟩ := sm_bd h
  refine sm_cr (va_runV (As := [.int x2, .int x3]) (rest := []) ⟨hx, hb, hml, hown, hts⟩ (k_X6_formAt l D cA adr hJ a0 x2 x3 ha0 M v3_378 hc3_380) (cwV 2 hts gX6_fillForm_X6_formAt rfl rfl rfl (by decide +kernel) ⟨Nat.le_of_ble_eq_true rfl, Nat.le_of_ble_eq_true rfl⟩) ⟨smPc_bl, smRv hE hP ha0 rfl (ci := 6) (q := (RX6, TX6, 5)) rfl, smPc_in [.ref (adr a0), .int x2, .int x3] hE hP⟩ rfl rfl hl.1 rfl (lv_room (Nat.le_of_ble_eq_true rfl)) dX6_fillForm_3 ⟨Nat.zero_le _, Nat.zero_le _⟩) hS (fun H locs hk3_381 hP hS => ?_)
  refine lv_astore (lv' := [(4, .ref (adr v3_378)), (0, .ref (adr a0)), (1, .ref (adr a1)), (2, .int x2), (3, .int x3)]) hx hb dX6_fillForm_6 hl (by decide) rfl (fun ls hl => ?_)
  refine lv_aload hx hb dX6_fillForm_8 (lv_at hl 0 rfl) ?_
  obtain ⟨M10_383, hc10_384, h⟩ := sm_bd h
  refine sm_cv (va_runSN (As := [.ref (adr v3_378)]) (rest := []) ⟨hx, hb, hml, hown, hts⟩ (k_X11_clear l D cA adr hJ v3_378 hk3_381 M M10_383 hc10_384) ⟨va_cnB (host := "OrderMover") 1 hts gX6_fillForm_X11_clear_n47 rfl rfl rfl (hE.2 (RX6, 47, yX11_clear, "OrderMover") (by decide +kernel)) (hts (.initialized RX11) (by decide +kernel)) (by decide +kernel) ⟨Nat.le_of_ble_eq_true rfl, Nat.le_of_ble_eq_true rfl⟩, hts (.static yX11_clear) (by decide +kernel), trivial⟩ ⟨smPc_bl, smPc_in [.ref (adr v3_378)] hE hP⟩ rfl rfl hl.1 rfl (lv_room (Nat.le_of_ble_eq_true rfl)) dX6_fillForm_10 ⟨Nat.zero_le _, Nat.zero_le _⟩) hS (fun H locs hP hS => ?_)
  refine lv_iload_n hx hb dX6_fillForm_13 rfl (lv_at hl 3 rfl) ?_
  refine lv_aload_n hx hb dX6_fillForm_14 rfl (lv_at hl 1 rfl) ?_
  refine sm_get (ci := 6) (C := RX6) (T := TX6) (N := 5) (v := .int (M10_383 a0 1)) hx hb hts hin6 hown hE hP ha0 rfl rfl 1 (by decide) (hts (.fieldLink RX6 30 "OrderMover$Quotient" "width" "I") (by decide +kernel)) (fun _ h9 => h9) rfl dX6_fillForm_15 ?_
  refine lv_icmp_lt (tgt := 39) hx hb dX6_fillForm_18 (by decide) (fun c18_385 => ?_) (fun c18_385 => ?_)
  · rw [if_pos c18_385] at h
    refine lv_iload_n hx hb dX6_fillForm_39 rfl (lv_at hl 4 rfl) ?_
    refine lv_aload_n hx hb dX6_fillForm_40 rfl (lv_at hl 1 rfl) ?_
    refine sm_get (ci := 6) (C := RX6) (T := TX6) (N := 5) (v := .int (M10_383 a0 2)) hx hb hts hin6 hown hE hP ha0 rfl rfl 2 (by decide) (hts (.fieldLink RX6 36 "OrderMover$Quotient" "height" "I") (by decide +kernel)) (fun _ h9 => h9) rfl dX6_fillForm_41 ?_
    refine lv_icmp_lt (tgt := 65) hx hb dX6_fillForm_44 (by decide) (fun c44_386 => ?_) (fun c44_386 => ?_)
    · rw [if_pos c44_386] at h
      refine lv_aload hx hb dX6_fillForm_65 (lv_at hl 0 rfl) ?_
      refine lv_aload_n hx hb dX6_fillForm_67 rfl (lv_at hl 1 rfl) ?_
      refine sm_get (ci := 6) (C := RX6) (T := TX6) (N := 5) (v := .int (M10_383 a0 1)) hx hb hts hin6 hown hE hP ha0 rfl rfl 1 (by decide) (hts (.fieldLink RX6 30 "OrderMover$Quotient" "width" "I") (by decide +kernel)) (fun _ h9 => h9) rfl dX6_fillForm_68 ?_
      refine lv_iload_n hx hb dX6_fillForm_71 rfl (lv_at hl 4 rfl) ?_
      refine lv_imul hx hb dX6_fillForm_72 ?_
      refine lv_iload_n hx hb dX6_fillForm_73 rfl (lv_at hl 3 rfl) ?_
      refine lv_iadd hx hb dX6_fillForm_74 ?_
      refine lv_iconst (v := (1 : Int32)) hx hb dX6_fillForm_75 (by decide) ?_
      obtain ⟨c76_387, h⟩ := sm_ck h
      refine sm_iast hx hb hE hJ hP hS hk3_381 c76_387 dX6_fillForm_76 (fun H locs hP hS => ?_)
      obtain ⟨M76_388, hM, h⟩ := sm_lt h
      rw [← hM] at hP; clear hM
      cases h
      exact sm_vret hx hb hr hlocks hP hS dX6_fillForm_77
    · rw [if_neg c44_386] at h
      refine lv_aload_n hx hb dX6_fillForm_47 rfl (lv_at hl 1 rfl) ?_
      refine lv_aload_n hx hb dX6_fillForm_48 rfl (lv_at hl 2 rfl) ?_
      refine lv_iconst (v := (1 : Int32)) hx hb dX6_fillForm_49 (by decide) ?_
      refine lv_iload_n hx hb dX6_fillForm_50 rfl (lv_at hl 3 rfl) ?_
      refine lv_iload_n hx hb dX6_fillForm_51 rfl (lv_at hl 4 rfl) ?_
      refine lv_aload_n hx hb dX6_fillForm_52 rfl (lv_at hl 1 rfl) ?_
      refine sm_get (ci := 6) (C := RX6) (T := TX6) (N := 5) (v := .int (M10_383 a0 2)) hx hb hts hin6 hown hE hP ha0 rfl rfl 2 (by decide) (hts (.fieldLink RX6 36 "OrderMover$Quotient" "height" "I") (by decide +kernel)) (fun _ h9 => h9) rfl dX6_fillForm_53 ?_
      refine lv_isub hx hb dX6_fillForm_56 ?_
      refine lv_aload hx hb dX6_fillForm_57 (lv_at hl 0 rfl) ?_
      obtain ⟨M59_390, hc59_391, h⟩ := sm_bd h
      refine sm_cv (va_runV (As := [.ref (adr a1), .int (1 : Int32), .int x2, .int (x3 - (M10_383 a0 2)), .ref (adr v3_378)]) (rest := []) ⟨hx, hb, hml, hown, hts⟩ (k_X6_bringTail l D cA adr hJ a0 a1 (1 : Int32) x2 (x3 - (M10_383 a0 2)) v3_378 ha0 ha1 hk3_381 M10_383 M59_390 hc59_391) (cwV 5 hts gX6_fillForm_X6_bringTail rfl rfl rfl (by decide +kernel) ⟨Nat.le_of_ble_eq_true rfl, Nat.le_of_ble_eq_true rfl⟩) ⟨smPc_bl, smRv hE hP ha0 rfl (ci := 6) (q := (RX6, TX6, 5)) rfl, smPc_in [.ref (adr a0), .ref (adr a1), .int (1 : Int32), .int x2, .int (x3 - (M10_383 a0 2)), .ref (adr v3_378)] hE hP⟩ rfl rfl hl.1 rfl (lv_room (Nat.le_of_ble_eq_true rfl)) dX6_fillForm_59 ⟨Nat.zero_le _, Nat.zero_le _⟩) hS (fun H locs hP hS => ?_)
      refine lv_goto (tgt := 77) hx hb dX6_fillForm_62 (by decide) ?_
      cases h
      exact sm_vret hx hb hr hlocks hP hS dX6_fillForm_77
  · rw [if_neg c18_385] at h
    refine lv_aload_n hx hb dX6_fillForm_21 rfl (lv_at hl 1 rfl) ?_
    refine lv_aload_n hx hb dX6_fillForm_22 rfl (lv_at hl 2 rfl) ?_
    refine lv_iconst (v := (0 : Int32)) hx hb dX6_fillForm_23 (by decide) ?_
    refine lv_iload_n hx hb dX6_fillForm_24 rfl (lv_at hl 3 rfl) ?_
    refine lv_aload_n hx hb dX6_fillForm_25 rfl (lv_at hl 1 rfl) ?_
    refine sm_get (ci := 6) (C := RX6) (T := TX6) (N := 5) (v := .int (M10_383 a0 1)) hx hb hts hin6 hown hE hP ha0 rfl rfl 1 (by decide) (hts (.fieldLink RX6 30 "OrderMover$Quotient" "width" "I") (by decide +kernel)) (fun _ h9 => h9) rfl dX6_fillForm_26 ?_
    refine lv_isub hx hb dX6_fillForm_29 ?_
    refine lv_iload_n hx hb dX6_fillForm_30 rfl (lv_at hl 4 rfl) ?_
    refine lv_aload hx hb dX6_fillForm_31 (lv_at hl 0 rfl) ?_
    obtain ⟨M33_393, hc33_394, h⟩ := sm_bd h
    refine sm_cv (va_runV (As := [.ref (adr a1), .int (0 : Int32), .int (x2 - (M10_383 a0 1)), .int x3, .ref (adr v3_378)]) (rest := []) ⟨hx, hb, hml, hown, hts⟩ (k_X6_bringTail l D cA adr hJ a0 a1 (0 : Int32) (x2 - (M10_383 a0 1)) x3 v3_378 ha0 ha1 hk3_381 M10_383 M33_393 hc33_394) (cwV 5 hts gX6_fillForm_X6_bringTail rfl rfl rfl (by decide +kernel) ⟨Nat.le_of_ble_eq_true rfl, Nat.le_of_ble_eq_true rfl⟩) ⟨smPc_bl, smRv hE hP ha0 rfl (ci := 6) (q := (RX6, TX6, 5)) rfl, smPc_in [.ref (adr a0), .ref (adr a1), .int (0 : Int32), .int (x2 - (M10_383 a0 1)), .int x3, .ref (adr v3_378)] hE hP⟩ rfl rfl hl.1 rfl (lv_room (Nat.le_of_ble_eq_true rfl)) dX6_fillForm_33 ⟨Nat.zero_le _, Nat.zero_le _⟩) hS (fun H locs hP hS => ?_)
    refine lv_goto (tgt := 77) hx hb dX6_fillForm_36 (by decide) ?_
    cases h
    exact sm_vret hx hb hr hlocks hP hS dX6_fillForm_77
set_option maxHeartbeats 4000000 in
set_option maxRecDepth 100000 in
theorem k_X6_build (l : Launch) (D : va_G) (cA : Nat → ClassId) (adr : Nat → Nat) (hJ : smJ 1 adr) (a0 : Nat) (a1 : Nat) (ha0 : smT 1 a0 6) (ha1 : smT 1 a1 7) (M : smM) (M1 : smM) (h : m_X6_build a0 a1 M = some M1) : Met l yX6_build wsX6_build ({ frames := 3, cells := 0, slots := 0, locals := 78 }) (smPc D cA 1 adr M [.ref (adr a0), .ref (adr a1)]) (smQv D cA 1 adr M1) 0 0 (smA 1 adr) := by
  refine Met.ofW (cc := cX6_build) (maxL := 4) (ret := none) (by decide) rfl ?_
  intro p e s m args below meth c s₁ B hml hv
  obtain ⟨rfl, hE, hP⟩ := hv
  have hx := B.exec
  have hb := B.bytes
  have hr := B.returns
  have hts := atoms_spec (ws := wsX6_build) B.pre
  have hown : s.vm.findClass RX6 = some m.cls := findClass_of_methodNamed B.named
  have hlocks := B.notSynchronized
  have hS : va_S (smA 1 adr) s.heap s.heap [] := va_S.rf
  have hP : smP D cA 1 adr M s.heap := hP
  have hl := lv_entry ([.ref (adr a0), .ref (adr a1)]) (n := 4) (Nat.le_of_ble_eq_true rfl)
  rw [lg_entry_eq]
  generalize (lg_sl ([.ref (adr a0), .ref (adr a1)]) ++ List.replicate (4 - (lg_sl ([.ref (adr a0), .ref (adr a1)])).length) Slot.unset).toArray = ls at hl ⊢
  have hl : lv_has ls 4 [(0, .ref (adr a0)), (1, .ref (adr a1))] := hl
  unfold m_X6_build at h
  have hin6 : ∀ w ∈ u_ws RX6 TX6 5, w ∈ wsX6_build := by decide +kernel
  have hin7 : ∀ w ∈ u_ws RX7 TX7 7, w ∈ wsX6_build := by decide +kernel
  refine lv_aload_n hx hb dX6_build_0 rfl (lv_at hl 0 rfl) ?_
  refine lv_aload_n hx hb dX6_build_1 rfl (lv_at hl 1 rfl) ?_
  refine sm_get (ci := 7) (C := RX7) (T := TX7) (N := 7) (v := .int (M a1 0)) hx hb hts hin7 hown hE hP ha1 rfl rfl 0 (by decide) (hts (.fieldLink RX6 20 "OrderMover$Setting" "p" "I") (by decide +kernel)) (fun _ h9 => h9) rfl dX6_build_2 ?_
  refine sm_put (ci := 6) (C := RX6) (T := TX6) (N := 5) (ty := .int) hx hb hts hin6 tyX6 tyX6_ok nmX6 hown hE hJ hP hS ha0 rfl rfl 0 (by decide) (hts (.fieldLink RX6 26 "OrderMover$Quotient" "p" "I") (by decide +kernel)) (fun _ h9 => h9) rfl (by decide +kernel) rfl rfl (Nat.le_of_ble_eq_true rfl) rfl dX6_build_5 (fun H locs hP hS => ?_)
  obtain ⟨M5_395, hM, h⟩ := sm_lt h
  rw [← hM] at hP; clear hM
  refine lv_aload_n hx hb dX6_build_8 rfl (lv_at hl 0 rfl) ?_
  refine lv_aload_n hx hb dX6_build_9 rfl (lv_at hl 1 rfl) ?_
  refine sm_get (ci := 7) (C := RX7) (T := TX7) (N := 7) (v := .int (M5_395 a1 1)) hx hb hts hin7 hown hE hP ha1 rfl rfl 1 (by decide) (hts (.fieldLink RX6 27 "OrderMover$Setting" "a" "I") (by decide +kernel)) (fun _ h9 => h9) rfl dX6_build_10 ?_
  refine sm_put (ci := 6) (C := RX6) (T := TX6) (N := 5) (ty := .int) hx hb hts hin6 tyX6 tyX6_ok nmX6 hown hE hJ hP hS ha0 rfl rfl 1 (by decide) (hts (.fieldLink RX6 30 "OrderMover$Quotient" "width" "I") (by decide +kernel)) (fun _ h9 => h9) rfl (by decide +kernel) rfl rfl (Nat.le_of_ble_eq_true rfl) rfl dX6_build_13 (fun H locs hP hS => ?_)
  obtain ⟨M13_396, hM, h⟩ := sm_lt h
  rw [← hM] at hP; clear hM
  refine lv_aload_n hx hb dX6_build_16 rfl (lv_at hl 0 rfl) ?_
  refine lv_aload_n hx hb dX6_build_17 rfl (lv_at hl 1 rfl) ?_
  refine sm_get (ci := 7) (C := RX7) (T := TX7) (N := 7) (v := .int (M13_396 a1 2)) hx hb hts hin7 hown hE hP ha1 rfl rfl 2 (by decide) (hts (.fieldLink RX6 33 "OrderMover$Setting" "b" "I") (by decide +kernel)) (fun _ h9 => h9) rfl dX6_build_18 ?_
  refine sm_put (ci := 6) (C := RX6) (T := TX6) (N := 5) (ty := .int) hx hb hts hin6 tyX6 tyX6_ok nmX6 hown hE hJ hP hS ha0 rfl rfl 2 (by decide) (hts (.fieldLink RX6 36 "OrderMover$Quotient" "height" "I") (by decide +kernel)) (fun _ h9 => h9) rfl (by decide +kernel) rfl rfl (Nat.le_of_ble_eq_true rfl) rfl dX6_build_21 (fun H locs hP hS => ?_)
  obtain ⟨M21_397, hM, h⟩ := sm_lt h
  rw [← hM] at hP; clear hM
  refine lv_iconst (v := (0 : Int32)) hx hb dX6_build_24 (by decide) ?_
  refine lv_istore_n (lv' := [(2, .int (0 : Int32)), (0, .ref (adr a0)), (1, .ref (adr a1))]) hx hb dX6_build_25 rfl hl (by decide) rfl (fun ls hl => ?_)
  refine sm_lp (b := fun rc q => m_X6_build_b26 a0 a1 rc q.1 q.2) (P := fun (q : Int32 × smM) H locs ls => smP D cA 1 adr q.2 H ∧ va_S (smA 1 adr) s.heap H locs ∧ lv_has ls 4 [(0, .ref (adr a0)), (1, .ref (adr a1)), (2, .int q.1)]) (pc := 26) ?_ _ _ _ _ _ h ⟨hP, hS, lv_sub hl [1, 2, 0] rfl⟩
  intro rc26_400 ih26_401 q H locs ls h hI
  obtain ⟨x2_26_398, M26_399⟩ := q
  obtain ⟨hP, hS, hl⟩ := hI
  have hP : smP D cA 1 adr M26_399 H := hP
  have hl : lv_has ls 4 [(0, .ref (adr a0)), (1, .ref (adr a1)), (2, .int x2_26_398)] := hl
  have h : m_X6_build_b26 a0 a1 rc26_400 x2_26_398 M26_399 = some _ := h
  unfold m_X6_build_b26 at h
  refine lv_iload_n hx hb dX6_build_26 rfl (lv_at hl 2 rfl) ?_
  refine lv_aload_n hx hb dX6_build_27 rfl (lv_at hl 0 rfl) ?_
  refine sm_get (ci := 6) (C := RX6) (T := TX6) (N := 5) (v := .int (M26_399 a0 1)) hx hb hts hin6 hown hE hP ha0 rfl rfl 1 (by decide) (hts (.fieldLink RX6 30 "OrderMover$Quotient" "width" "I") (by decide +kernel)) (fun _ h9 => h9) rfl dX6_build_28 ?_
  refine lv_aload_n hx hb dX6_build_31 rfl (lv_at hl 0 rfl) ?_
  refine sm_get (ci := 6) (C := RX6) (T := TX6) (N := 5) (v := .int (M26_399 a0 2)) hx hb hts hin6 hown hE hP ha0 rfl rfl 2 (by decide) (hts (.fieldLink RX6 36 "OrderMover$Quotient" "height" "I") (by decide +kernel)) (fun _ h9 => h9) rfl dX6_build_32 ?_
  refine lv_iadd hx hb dX6_build_35 ?_
  refine lv_icmp_ge (tgt := 67) hx hb dX6_build_36 (by decide) (fun c36_402 => ?_) (fun c36_402 => ?_)
  · rw [if_pos c36_402] at h
    cases h
    exact sm_vret hx hb hr hlocks hP hS dX6_build_67
  · rw [if_neg c36_402] at h
    refine lv_iconst (v := (0 : Int32)) hx hb dX6_build_39 (by decide) ?_
    refine lv_istore_n (lv' := [(3, .int (0 : Int32)), (0, .ref (adr a0)), (1, .ref (adr a1)), (2, .int x2_26_398)]) hx hb dX6_build_40 rfl hl (by decide) rfl (fun ls hl => ?_)
    refine sm_lp (b := fun rc q => m_X6_build_b41 a0 a1 x2_26_398 rc26_400 rc q.1 q.2) (P := fun (q : Int32 × smM) H locs ls => smP D cA 1 adr q.2 H ∧ va_S (smA 1 adr) s.heap H locs ∧ lv_has ls 4 [(0, .ref (adr a0)), (1, .ref (adr a1)), (2, .int x2_26_398), (3, .int q.1)]) (pc := 41) ?_ _ _ _ _ _ h ⟨hP, hS, lv_sub hl [1, 2, 3, 0] rfl⟩
    intro rc41_405 ih41_406 q H locs ls h hI
    obtain ⟨x3_41_403, M41_404⟩ := q
    obtain ⟨hP, hS, hl⟩ := hI
    have hP : smP D cA 1 adr M41_404 H := hP
    have hl : lv_has ls 4 [(0, .ref (adr a0)), (1, .ref (adr a1)), (2, .int x2_26_398), (3, .int x3_41_403)] := hl
    have h : m_X6_build_b41 a0 a1 x2_26_398 rc26_400 rc41_405 x3_41_403 M41_404 = some _ := h
    unfold m_X6_build_b41 at h
    refine lv_iload_n hx hb dX6_build_41 rfl (lv_at hl 3 rfl) ?_
    refine lv_iload_n hx hb dX6_build_42 rfl (lv_at hl 2 rfl) ?_
    refine lv_icmp_gt (tgt := 61) hx hb dX6_build_43 (by decide) (fun c43_407 => ?_) (fun c43_407 => ?_)
    · rw [if_pos c43_407] at h
      refine lv_iinc (v := (x2_26_398 + (1 : Int32))) (lv' := [(2, .int (x2_26_398 + (1 : Int32))), (0, .ref (adr a0)), (1, .ref (adr a1)), (3, .int x3_41_403)]) hx hb dX6_build_61 hl (k := 2) rfl (congrArg (fun z => x2_26_398 + z) (by decide)) (by decide) rfl (fun ls hl => ?_)
      refine lv_goto (tgt := 26) hx hb dX6_build_64 (by decide) ?_
      exact ih26_401 ((x2_26_398 + (1 : Int32)), M41_404) _ _ _ h ⟨hP, hS, lv_sub hl [1, 2, 0] rfl⟩
    · rw [if_neg c43_407] at h
      refine lv_aload_n hx hb dX6_build_46 rfl (lv_at hl 0 rfl) ?_
      refine lv_aload_n hx hb dX6_build_47 rfl (lv_at hl 1 rfl) ?_
      refine lv_iload_n hx hb dX6_build_48 rfl (lv_at hl 3 rfl) ?_
      refine lv_iload_n hx hb dX6_build_49 rfl (lv_at hl 2 rfl) ?_
      refine lv_iload_n hx hb dX6_build_50 rfl (lv_at hl 3 rfl) ?_
      refine lv_isub hx hb dX6_build_51 ?_
      obtain ⟨M52_409, hc52_410, h⟩ := sm_bd h
      refine sm_cv (va_runV (As := [.ref (adr a1), .int x3_41_403, .int (x2_26_398 - x3_41_403)]) (rest := []) ⟨hx, hb, hml, hown, hts⟩ (k_X6_fillForm l D cA adr hJ a0 a1 x3_41_403 (x2_26_398 - x3_41_403) ha0 ha1 M41_404 M52_409 hc52_410) (cwV 3 hts gX6_build_X6_fillForm rfl rfl rfl (by decide +kernel) ⟨Nat.le_of_ble_eq_true rfl, Nat.le_of_ble_eq_true rfl⟩) ⟨smPc_bl, smRv hE hP ha0 rfl (ci := 6) (q := (RX6, TX6, 5)) rfl, smPc_in [.ref (adr a0), .ref (adr a1), .int x3_41_403, .int (x2_26_398 - x3_41_403)] hE hP⟩ rfl rfl hl.1 rfl (lv_room (Nat.le_of_ble_eq_true rfl)) dX6_build_52 ⟨Nat.zero_le _, Nat.zero_le _⟩) hS (fun H locs hP hS => ?_)
      refine lv_iinc (v := (x3_41_403 + (1 : Int32))) (lv' := [(3, .int (x3_41_403 + (1 : Int32))), (0, .ref (adr a0)), (1, .ref (adr a1)), (2, .int x2_26_398)]) hx hb dX6_build_55 hl (k := 3) rfl (congrArg (fun z => x3_41_403 + z) (by decide)) (by decide) rfl (fun ls hl => ?_)
      refine lv_goto (tgt := 41) hx hb dX6_build_58 (by decide) ?_
      exact ih41_406 ((x3_41_403 + (1 : Int32)), M52_409) _ _ _ h ⟨hP, hS, lv_sub hl [1, 2, 3, 0] rfl⟩
set_option maxHeartbeats 4000000 in
set_option maxRecDepth 100000 in
theorem k_X3_readFrom (l : Launch) (D : va_G) (cA : Nat → ClassId) (adr : Nat → Nat) (hJ : smJ 1 adr) (a0 : Nat) (a1 : Nat) (x2 : Int32) (x3 : Int32) (ha0 : smT 1 a0 3) (ha1 : smT 1 a1 4) (M : smM) (M1 : smM) (h : m_X3_readFrom a0 a1 x2 x3 M = some M1) : Met l yX3_readFrom wsX3_readFrom ({ frames := 1, cells := 0, slots := 0, locals := 27 }) (smPc D cA 1 adr M [.ref (adr a0), .ref (adr a1), .int x2, .int x3]) (smQv D cA 1 adr M1) 0 0 (smA 1 adr) := by
  refine Met.ofW (cc := cX3_readFrom) (maxL := 5) (ret := none) (by decide) rfl ?_
  intro p e s m args below meth c s₁ B hml hv
  obtain ⟨rfl, hE, hP⟩ := hv
  have hx := B.exec
  have hb := B.bytes
  have hr := B.returns
  have hts := atoms_spec (ws := wsX3_readFrom) B.pre
  have hown : s.vm.findClass RX3 = some m.cls := findClass_of_methodNamed B.named
  have hlocks := B.notSynchronized
  have hS : va_S (smA 1 adr) s.heap s.heap [] := va_S.rf
  have hP : smP D cA 1 adr M s.heap := hP
  have hl := lv_entry ([.ref (adr a0), .ref (adr a1), .int x2, .int x3]) (n := 5) (Nat.le_of_ble_eq_true rfl)
  rw [lg_entry_eq]
  generalize (lg_sl ([.ref (adr a0), .ref (adr a1), .int x2, .int x3]) ++ List.replicate (5 - (lg_sl ([.ref (adr a0), .ref (adr a1), .int x2, .int x3])).length) Slot.unset).toArray = ls at hl ⊢
  have hl : lv_has ls 5 [(0, .ref (adr a0)), (1, .ref (adr a1)), (2, .int x2), (3, .int x3)] := hl
  unfold m_X3_readFrom at h
  have hin3 : ∀ w ∈ u_ws RX3 TX3 7, w ∈ wsX3_readFrom := by decide +kernel
  have hin4 : ∀ w ∈ u_ws RX4 TX4 4, w ∈ wsX3_readFrom := by decide +kernel
  refine lv_aload_n hx hb dX3_readFrom_0 rfl (lv_at hl 0 rfl) ?_
  refine lv_iload_n hx hb dX3_readFrom_1 rfl (lv_at hl 3 rfl) ?_
  refine sm_put (ci := 3) (C := RX3) (T := TX3) (N := 7) (ty := .int) hx hb hts hin3 tyX3 tyX3_ok nmX3 hown hE hJ hP hS ha0 rfl rfl 3 (by decide) (hts (.fieldLink RX3 27 "OrderMover$Least" "p" "I") (by decide +kernel)) (fun _ h9 => h9) rfl (by decide +kernel) rfl rfl (Nat.le_of_ble_eq_true rfl) rfl dX3_readFrom_2 (fun H locs hP hS => ?_)
  obtain ⟨M2_411, hM, h⟩ := sm_lt h
  rw [← hM] at hP; clear hM
  refine lv_aload_n hx hb dX3_readFrom_5 rfl (lv_at hl 0 rfl) ?_
  refine lv_iload_n hx hb dX3_readFrom_6 rfl (lv_at hl 2 rfl) ?_
  refine lv_bipush (v := (9 : Int32)) hx hb dX3_readFrom_7 (by decide) ?_
  refine va_mmin hx hb (by rw [hml, hl.1]) hown (hts (.methodLink RX3 31 Lib.Math.min.name) (by decide +kernel)) (hts (.static Lib.Math.min.name) (by decide +kernel)) (hts (.initialized "java/lang/Math") (by decide +kernel)) (hts (.code Lib.Math.min.name Lib.Math.min.code 2 (some .int)) (by decide +kernel)) (Nat.le_of_ble_eq_true rfl) (Nat.le_of_ble_eq_true rfl) (Nat.zero_le _) (Nat.zero_le _) dX3_readFrom_9 ?_
  refine sm_put (ci := 3) (C := RX3) (T := TX3) (N := 7) (ty := .int) hx hb hts hin3 tyX3 tyX3_ok nmX3 hown hE hJ hP hS ha0 rfl rfl 0 (by decide) (hts (.fieldLink RX3 37 "OrderMover$Least" "high" "I") (by decide +kernel)) (fun _ h9 => h9) rfl (by decide +kernel) rfl rfl (Nat.le_of_ble_eq_true rfl) rfl dX3_readFrom_12 (fun H locs hP hS => ?_)
  obtain ⟨M12_412, hM, h⟩ := sm_lt h
  rw [← hM] at hP; clear hM
  refine lv_iconst (v := (0 : Int32)) hx hb dX3_readFrom_15 (by decide) ?_
  refine lv_istore (lv' := [(4, .int (0 : Int32)), (0, .ref (adr a0)), (1, .ref (adr a1)), (2, .int x2), (3, .int x3)]) hx hb dX3_readFrom_16 hl (by decide) rfl (fun ls hl => ?_)
  refine sm_lp (b := fun rc q => m_X3_readFrom_b18 a0 a1 rc q.1 q.2) (P := fun (q : Int32 × smM) H locs ls => smP D cA 1 adr q.2 H ∧ va_S (smA 1 adr) s.heap H locs ∧ lv_has ls 5 [(0, .ref (adr a0)), (1, .ref (adr a1)), (4, .int q.1)]) (pc := 18) ?_ _ _ _ _ _ h ⟨hP, hS, lv_sub hl [1, 2, 0] rfl⟩
  intro rc18_415 ih18_416 q H locs ls h hI
  obtain ⟨x4_18_413, M18_414⟩ := q
  obtain ⟨hP, hS, hl⟩ := hI
  have hP : smP D cA 1 adr M18_414 H := hP
  have hl : lv_has ls 5 [(0, .ref (adr a0)), (1, .ref (adr a1)), (4, .int x4_18_413)] := hl
  have h : m_X3_readFrom_b18 a0 a1 rc18_415 x4_18_413 M18_414 = some _ := h
  unfold m_X3_readFrom_b18 at h
  refine lv_iload hx hb dX3_readFrom_18 (lv_at hl 2 rfl) ?_
  refine lv_aload_n hx hb dX3_readFrom_20 rfl (lv_at hl 0 rfl) ?_
  refine sm_get (ci := 3) (C := RX3) (T := TX3) (N := 7) (v := .int (M18_414 a0 0)) hx hb hts hin3 hown hE hP ha0 rfl rfl 0 (by decide) (hts (.fieldLink RX3 37 "OrderMover$Least" "high" "I") (by decide +kernel)) (fun _ h9 => h9) rfl dX3_readFrom_21 ?_
  refine lv_icmp_ge (tgt := 49) hx hb dX3_readFrom_24 (by decide) (fun c24_417 => ?_) (fun c24_417 => ?_)
  · rw [if_pos c24_417] at h
    refine lv_aload_n hx hb dX3_readFrom_49 rfl (lv_at hl 0 rfl) ?_
    refine sm_get (ci := 3) (C := RX3) (T := TX3) (N := 7) (v := .ref (adr (a0 + 1))) hx hb hts hin3 hown hE hP ha0 rfl rfl 1 (by decide) (hts (.fieldLink RX3 9 "OrderMover$Least" "numbers" "[I") (by decide +kernel)) (fun _ h9 => h9) rfl dX3_readFrom_50 ?_
    refine lv_aload_n hx hb dX3_readFrom_53 rfl (lv_at hl 0 rfl) ?_
    refine sm_get (ci := 3) (C := RX3) (T := TX3) (N := 7) (v := .int (M18_414 a0 0)) hx hb hts hin3 hown hE hP ha0 rfl rfl 0 (by decide) (hts (.fieldLink RX3 37 "OrderMover$Least" "high" "I") (by decide +kernel)) (fun _ h9 => h9) rfl dX3_readFrom_54 ?_
    refine lv_iconst (v := (1 : Int32)) hx hb dX3_readFrom_57 (by decide) ?_
    obtain ⟨c58_418, h⟩ := sm_ck h
    refine sm_iast hx hb hE hJ hP hS (t3_1 ha0) c58_418 dX3_readFrom_58 (fun H locs hP hS => ?_)
    obtain ⟨M58_419, hM, h⟩ := sm_lt h
    rw [← hM] at hP; clear hM
    cases h
    exact sm_vret hx hb hr hlocks hP hS dX3_readFrom_59
  · rw [if_neg c24_417] at h
    refine lv_aload_n hx hb dX3_readFrom_27 rfl (lv_at hl 0 rfl) ?_
    refine sm_get (ci := 3) (C := RX3) (T := TX3) (N := 7) (v := .ref (adr (a0 + 1))) hx hb hts hin3 hown hE hP ha0 rfl rfl 1 (by decide) (hts (.fieldLink RX3 9 "OrderMover$Least" "numbers" "[I") (by decide +kernel)) (fun _ h9 => h9) rfl dX3_readFrom_28 ?_
    refine lv_iload hx hb dX3_readFrom_31 (lv_at hl 2 rfl) ?_
    refine lv_aload_n hx hb dX3_readFrom_33 rfl (lv_at hl 1 rfl) ?_
    refine sm_get (ci := 4) (C := RX4) (T := TX4) (N := 4) (v := .ref (adr (a1 + 3))) hx hb hts hin4 hown hE hP ha1 rfl rfl 3 (by decide) (hts (.fieldLink RX3 40 "OrderMover$Members" "tails" "[[I") (by decide +kernel)) (fun _ h9 => h9) rfl dX3_readFrom_34 ?_
    refine lv_iconst (v := (0 : Int32)) hx hb dX3_readFrom_37 (by decide) ?_
    obtain ⟨c38_420, h⟩ := sm_ck h
    refine sm_aald22 hx hb hE hP (t4_3 ha1) c38_420 dX3_readFrom_38 ?_
    refine lv_iload hx hb dX3_readFrom_39 (lv_at hl 2 rfl) ?_
    obtain ⟨c41_421, h⟩ := sm_ck h
    refine sm_iald hx hb hE hP (te22 (t4_3 ha1) c38_420) c41_421 dX3_readFrom_41 ?_
    obtain ⟨c42_422, h⟩ := sm_ck h
    refine sm_iast hx hb hE hJ hP hS (t3_1 ha0) c42_422 dX3_readFrom_42 (fun H locs hP hS => ?_)
    obtain ⟨M42_423, hM, h⟩ := sm_lt h
    rw [← hM] at hP; clear hM
    refine lv_iinc (v := (x4_18_413 + (1 : Int32))) (lv' := [(4, .int (x4_18_413 + (1 : Int32))), (0, .ref (adr a0)), (1, .ref (adr a1))]) hx hb dX3_readFrom_43 hl (k := 2) rfl (congrArg (fun z => x4_18_413 + z) (by decide)) (by decide) rfl (fun ls hl => ?_)
    refine lv_goto (tgt := 18) hx hb dX3_readFrom_46 (by decide) ?_
    exact ih18_416 ((x4_18_413 + (1 : Int32)), M42_423) _ _ _ h ⟨hP, hS, lv_sub hl [1, 2, 0] rfl⟩
set_option maxHeartbeats 4000000 in
set_option maxRecDepth 100000 in
theorem k_X2_bringUpToDate (l : Launch) (D : va_G) (cA : Nat → ClassId) (adr : Nat → Nat) (hJ : smJ 1 adr) (a0 : Nat) (a1 : Nat) (ha0 : smT 1 a0 2) (ha1 : smT 1 a1 7) (M : smM) (M1 : smM) (h : m_X2_bringUpToDate a0 a1 M = some M1) : Met l yX2_bringUpToDate wsX2_bringUpToDate ({ frames := 4, cells := 0, slots := 0, locals := 101 }) (smPc D cA 1 adr M [.ref (adr a0), .ref (adr a1)]) (smQv D cA 1 adr M1) 0 0 (smA 1 adr) := by
  refine Met.ofW (cc := cX2_bringUpToDate) (maxL := 3) (ret := none) (by decide) rfl ?_
  intro p e s m args below meth c s₁ B hml hv
  obtain ⟨rfl, hE, hP⟩ := hv
  have hx := B.exec
  have hb := B.bytes
  have hr := B.returns
  have hts := atoms_spec (ws := wsX2_bringUpToDate) B.pre
  have hown : s.vm.findClass RX2 = some m.cls := findClass_of_methodNamed B.named
  have hlocks := B.notSynchronized
  have hS : va_S (smA 1 adr) s.heap s.heap [] := va_S.rf
  have hP : smP D cA 1 adr M s.heap := hP
  have hl := lv_entry ([.ref (adr a0), .ref (adr a1)]) (n := 3) (Nat.le_of_ble_eq_true rfl)
  rw [lg_entry_eq]
  generalize (lg_sl ([.ref (adr a0), .ref (adr a1)]) ++ List.replicate (3 - (lg_sl ([.ref (adr a0), .ref (adr a1)])).length) Slot.unset).toArray = ls at hl ⊢
  have hl : lv_has ls 3 [(0, .ref (adr a0)), (1, .ref (adr a1))] := hl
  unfold m_X2_bringUpToDate at h
  have hin0 : ∀ w ∈ u_ws RX0 TX0 9, w ∈ wsX2_bringUpToDate := by decide +kernel
  have hin2 : ∀ w ∈ u_ws RX2 TX2 9, w ∈ wsX2_bringUpToDate := by decide +kernel
  have hin4 : ∀ w ∈ u_ws RX4 TX4 4, w ∈ wsX2_bringUpToDate := by decide +kernel
  have hin7 : ∀ w ∈ u_ws RX7 TX7 7, w ∈ wsX2_bringUpToDate := by decide +kernel
  refine lv_aload_n hx hb dX2_bringUpToDate_0 rfl (lv_at hl 0 rfl) ?_
  refine sm_get (ci := 2) (C := RX2) (T := TX2) (N := 9) (v := .int (M a0 6)) hx hb hts hin2 hown hE hP ha0 rfl rfl 6 (by decide) (hts (.fieldLink RX2 50 "OrderMover$Ideal" "current" "Z") (by decide +kernel)) (fun _ h9 => h9) rfl dX2_bringUpToDate_1 ?_
  refine lv_if_eq (tgt := 8) hx hb dX2_bringUpToDate_4 (by decide) (fun c4_424 => ?_) (fun c4_424 => ?_)
  · rw [if_pos c4_424] at h
    refine lv_aload_n hx hb dX2_bringUpToDate_8 rfl (lv_at hl 0 rfl) ?_
    refine sm_get (ci := 2) (C := RX2) (T := TX2) (N := 9) (v := .ref (adr (a0 + 1))) hx hb hts hin2 hown hE hP ha0 rfl rfl 0 (by decide) (hts (.fieldLink RX2 12 "OrderMover$Ideal" "quotient" "LOrderMover$Quotient;") (by decide +kernel)) (fun _ h9 => h9) rfl dX2_bringUpToDate_9 ?_
    refine lv_aload_n hx hb dX2_bringUpToDate_12 rfl (lv_at hl 1 rfl) ?_
    obtain ⟨M13_426, hc13_427, h⟩ := sm_bd h
    refine sm_cv (va_runV (As := [.ref (adr a1)]) (rest := []) ⟨hx, hb, hml, hown, hts⟩ (k_X6_build l D cA adr hJ (a0 + 1) a1 (t2_0 ha0) ha1 M M13_426 hc13_427) (cwV 1 hts gX2_bringUpToDate_X6_build rfl rfl rfl (by decide +kernel) ⟨Nat.le_of_ble_eq_true rfl, Nat.le_of_ble_eq_true rfl⟩) ⟨smPc_bl, smRv hE hP (t2_0 ha0) rfl (ci := 6) (q := (RX6, TX6, 5)) rfl, smPc_in [.ref (adr (a0 + 1)), .ref (adr a1)] hE hP⟩ rfl rfl hl.1 rfl (lv_room (Nat.le_of_ble_eq_true rfl)) dX2_bringUpToDate_13 ⟨Nat.zero_le _, Nat.zero_le _⟩) hS (fun H locs hP hS => ?_)
    refine lv_iconst (v := (0 : Int32)) hx hb dX2_bringUpToDate_16 (by decide) ?_
    refine lv_istore_n (lv' := [(2, .int (0 : Int32)), (0, .ref (adr a0)), (1, .ref (adr a1))]) hx hb dX2_bringUpToDate_17 rfl hl (by decide) rfl (fun ls hl => ?_)
    refine sm_lp (b := fun rc q => m_X2_bringUpToDate_b18 a0 a1 rc q.1 q.2) (P := fun (q : Int32 × smM) H locs ls => smP D cA 1 adr q.2 H ∧ va_S (smA 1 adr) s.heap H locs ∧ lv_has ls 3 [(0, .ref (adr a0)), (1, .ref (adr a1)), (2, .int q.1)]) (pc := 18) ?_ _ _ _ _ _ h ⟨hP, hS, lv_sub hl [1, 2, 0] rfl⟩
    intro rc18_430 ih18_431 q H locs ls h hI
    obtain ⟨x2_18_428, M18_429⟩ := q
    obtain ⟨hP, hS, hl⟩ := hI
    have hP : smP D cA 1 adr M18_429 H := hP
    have hl : lv_has ls 3 [(0, .ref (adr a0)), (1, .ref (adr a1)), (2, .int x2_18_428)] := hl
    have h : m_X2_bringUpToDate_b18 a0 a1 rc18_430 x2_18_428 M18_429 = some _ := h
    unfold m_X2_bringUpToDate_b18 at h
    refine lv_iload_n hx hb dX2_bringUpToDate_18 rfl (lv_at hl 2 rfl) ?_
    refine lv_iconst (v := (5 : Int32)) hx hb dX2_bringUpToDate_19 (by decide) ?_
    refine lv_icmp_ge (tgt := 45) hx hb dX2_bringUpToDate_20 (by decide) (fun c20_432 => ?_) (fun c20_432 => ?_)
    · rw [if_pos c20_432] at h
      refine lv_aload_n hx hb dX2_bringUpToDate_45 rfl (lv_at hl 0 rfl) ?_
      refine sm_get (ci := 2) (C := RX2) (T := TX2) (N := 9) (v := .ref (adr (a0 + 55))) hx hb hts hin2 hown hE hP ha0 rfl rfl 4 (by decide) (hts (.fieldLink RX2 33 "OrderMover$Ideal" "bases" "[LOrderMover$Base;") (by decide +kernel)) (fun _ h9 => h9) rfl dX2_bringUpToDate_46 ?_
      refine lv_iconst (v := (0 : Int32)) hx hb dX2_bringUpToDate_49 (by decide) ?_
      obtain ⟨c50_433, h⟩ := sm_ck h
      refine sm_aald26 hx hb hE hP (t2_4 ha0) c50_433 dX2_bringUpToDate_50 ?_
      refine lv_aload_n hx hb dX2_bringUpToDate_51 rfl (lv_at hl 0 rfl) ?_
      refine sm_get (ci := 2) (C := RX2) (T := TX2) (N := 9) (v := .ref (adr (a0 + 1))) hx hb hts hin2 hown hE hP ha0 rfl rfl 0 (by decide) (hts (.fieldLink RX2 12 "OrderMover$Ideal" "quotient" "LOrderMover$Quotient;") (by decide +kernel)) (fun _ h9 => h9) rfl dX2_bringUpToDate_52 ?_
      refine lv_iconst (v := (0 : Int32)) hx hb dX2_bringUpToDate_55 (by decide) ?_
      refine lv_aload_n hx hb dX2_bringUpToDate_56 rfl (lv_at hl 1 rfl) ?_
      refine sm_get (ci := 7) (C := RX7) (T := TX7) (N := 7) (v := .int (M18_429 a1 3)) hx hb hts hin7 hown hE hP ha1 rfl rfl 3 (by decide) (hts (.fieldLink RX2 58 "OrderMover$Setting" "u" "I") (by decide +kernel)) (fun _ h9 => h9) rfl dX2_bringUpToDate_57 ?_
      refine lv_aload_n hx hb dX2_bringUpToDate_60 rfl (lv_at hl 1 rfl) ?_
      refine sm_get (ci := 7) (C := RX7) (T := TX7) (N := 7) (v := .int (M18_429 a1 4)) hx hb hts hin7 hown hE hP ha1 rfl rfl 4 (by decide) (hts (.fieldLink RX2 63 "OrderMover$Setting" "v" "I") (by decide +kernel)) (fun _ h9 => h9) rfl dX2_bringUpToDate_61 ?_
      obtain ⟨M64_435, hc64_436, h⟩ := sm_bd h
      refine sm_cv (va_runV (As := [.ref (adr (a0 + 1)), .int (0 : Int32), .int (M18_429 a1 3), .int (M18_429 a1 4)]) (rest := []) ⟨hx, hb, hml, hown, hts⟩ (k_X0_walk l D cA adr hJ ((a0 + 55) + 1 + 58 * ((0 : Int32)).toNatClampNeg) (a0 + 1) (0 : Int32) (M18_429 a1 3) (M18_429 a1 4) (te26 (t2_4 ha0) c50_433) (t2_0 ha0) M18_429 M64_435 hc64_436) (cwV 4 hts gX2_bringUpToDate_X0_walk rfl rfl rfl (by decide +kernel) ⟨Nat.le_of_ble_eq_true rfl, Nat.le_of_ble_eq_true rfl⟩) ⟨smPc_bl, smRv hE hP (te26 (t2_4 ha0) c50_433) rfl (ci := 0) (q := (RX0, TX0, 9)) rfl, smPc_in [.ref (adr ((a0 + 55) + 1 + 58 * ((0 : Int32)).toNatClampNeg)), .ref (adr (a0 + 1)), .int (0 : Int32), .int (M18_429 a1 3), .int (M18_429 a1 4)] hE hP⟩ rfl rfl hl.1 rfl (lv_room (Nat.le_of_ble_eq_true rfl)) dX2_bringUpToDate_64 ⟨Nat.zero_le _, Nat.zero_le _⟩) hS (fun H locs hP hS => ?_)
      refine lv_aload_n hx hb dX2_bringUpToDate_67 rfl (lv_at hl 0 rfl) ?_
      refine sm_get (ci := 2) (C := RX2) (T := TX2) (N := 9) (v := .ref (adr (a0 + 55))) hx hb hts hin2 hown hE hP ha0 rfl rfl 4 (by decide) (hts (.fieldLink RX2 33 "OrderMover$Ideal" "bases" "[LOrderMover$Base;") (by decide +kernel)) (fun _ h9 => h9) rfl dX2_bringUpToDate_68 ?_
      refine lv_iconst (v := (1 : Int32)) hx hb dX2_bringUpToDate_71 (by decide) ?_
      obtain ⟨c72_437, h⟩ := sm_ck h
      refine sm_aald26 hx hb hE hP (t2_4 ha0) c72_437 dX2_bringUpToDate_72 ?_
      refine lv_aload_n hx hb dX2_bringUpToDate_73 rfl (lv_at hl 0 rfl) ?_
      refine sm_get (ci := 2) (C := RX2) (T := TX2) (N := 9) (v := .ref (adr (a0 + 1))) hx hb hts hin2 hown hE hP ha0 rfl rfl 0 (by decide) (hts (.fieldLink RX2 12 "OrderMover$Ideal" "quotient" "LOrderMover$Quotient;") (by decide +kernel)) (fun _ h9 => h9) rfl dX2_bringUpToDate_74 ?_
      refine lv_iconst (v := (1 : Int32)) hx hb dX2_bringUpToDate_77 (by decide) ?_
      refine lv_aload_n hx hb dX2_bringUpToDate_78 rfl (lv_at hl 1 rfl) ?_
      refine sm_get (ci := 7) (C := RX7) (T := TX7) (N := 7) (v := .int (M64_435 a1 3)) hx hb hts hin7 hown hE hP ha1 rfl rfl 3 (by decide) (hts (.fieldLink RX2 58 "OrderMover$Setting" "u" "I") (by decide +kernel)) (fun _ h9 => h9) rfl dX2_bringUpToDate_79 ?_
      refine lv_aload_n hx hb dX2_bringUpToDate_82 rfl (lv_at hl 1 rfl) ?_
      refine sm_get (ci := 7) (C := RX7) (T := TX7) (N := 7) (v := .int (M64_435 a1 4)) hx hb hts hin7 hown hE hP ha1 rfl rfl 4 (by decide) (hts (.fieldLink RX2 63 "OrderMover$Setting" "v" "I") (by decide +kernel)) (fun _ h9 => h9) rfl dX2_bringUpToDate_83 ?_
      obtain ⟨M86_439, hc86_440, h⟩ := sm_bd h
      refine sm_cv (va_runV (As := [.ref (adr (a0 + 1)), .int (1 : Int32), .int (M64_435 a1 3), .int (M64_435 a1 4)]) (rest := []) ⟨hx, hb, hml, hown, hts⟩ (k_X0_walk l D cA adr hJ ((a0 + 55) + 1 + 58 * ((1 : Int32)).toNatClampNeg) (a0 + 1) (1 : Int32) (M64_435 a1 3) (M64_435 a1 4) (te26 (t2_4 ha0) c72_437) (t2_0 ha0) M64_435 M86_439 hc86_440) (cwV 4 hts gX2_bringUpToDate_X0_walk rfl rfl rfl (by decide +kernel) ⟨Nat.le_of_ble_eq_true rfl, Nat.le_of_ble_eq_true rfl⟩) ⟨smPc_bl, smRv hE hP (te26 (t2_4 ha0) c72_437) rfl (ci := 0) (q := (RX0, TX0, 9)) rfl, smPc_in [.ref (adr ((a0 + 55) + 1 + 58 * ((1 : Int32)).toNatClampNeg)), .ref (adr (a0 + 1)), .int (1 : Int32), .int (M64_435 a1 3), .int (M64_435 a1 4)] hE hP⟩ rfl rfl hl.1 rfl (lv_room (Nat.le_of_ble_eq_true rfl)) dX2_bringUpToDate_86 ⟨Nat.zero_le _, Nat.zero_le _⟩) hS (fun H locs hP hS => ?_)
      refine lv_aload_n hx hb dX2_bringUpToDate_89 rfl (lv_at hl 0 rfl) ?_
      refine sm_get (ci := 2) (C := RX2) (T := TX2) (N := 9) (v := .ref (adr (a0 + 40))) hx hb hts hin2 hown hE hP ha0 rfl rfl 1 (by decide) (hts (.fieldLink RX2 20 "OrderMover$Ideal" "leasts" "[LOrderMover$Least;") (by decide +kernel)) (fun _ h9 => h9) rfl dX2_bringUpToDate_90 ?_
      refine lv_iconst (v := (0 : Int32)) hx hb dX2_bringUpToDate_93 (by decide) ?_
      obtain ⟨c94_441, h⟩ := sm_ck h
      refine sm_aald25 hx hb hE hP (t2_1 ha0) c94_441 dX2_bringUpToDate_94 ?_
      refine lv_aload_n hx hb dX2_bringUpToDate_95 rfl (lv_at hl 0 rfl) ?_
      refine sm_get (ci := 2) (C := RX2) (T := TX2) (N := 9) (v := .ref (adr (a0 + 55))) hx hb hts hin2 hown hE hP ha0 rfl rfl 4 (by decide) (hts (.fieldLink RX2 33 "OrderMover$Ideal" "bases" "[LOrderMover$Base;") (by decide +kernel)) (fun _ h9 => h9) rfl dX2_bringUpToDate_96 ?_
      refine lv_iconst (v := (1 : Int32)) hx hb dX2_bringUpToDate_99 (by decide) ?_
      obtain ⟨c100_442, h⟩ := sm_ck h
      refine sm_aald26 hx hb hE hP (t2_4 ha0) c100_442 dX2_bringUpToDate_100 ?_
      refine sm_get (ci := 0) (C := RX0) (T := TX0) (N := 9) (v := .ref (adr (((a0 + 55) + 1 + 58 * ((1 : Int32)).toNatClampNeg) + 2))) hx hb hts hin0 hown hE hP (te26 (t2_4 ha0) c100_442) rfl rfl 1 (by decide) (hts (.fieldLink RX2 70 "OrderMover$Base" "members" "LOrderMover$Members;") (by decide +kernel)) (fun _ h9 => h9) rfl dX2_bringUpToDate_101 ?_
      refine lv_aload_n hx hb dX2_bringUpToDate_104 rfl (lv_at hl 0 rfl) ?_
      refine sm_get (ci := 2) (C := RX2) (T := TX2) (N := 9) (v := .ref (adr (a0 + 55))) hx hb hts hin2 hown hE hP ha0 rfl rfl 4 (by decide) (hts (.fieldLink RX2 33 "OrderMover$Ideal" "bases" "[LOrderMover$Base;") (by decide +kernel)) (fun _ h9 => h9) rfl dX2_bringUpToDate_105 ?_
      refine lv_iconst (v := (1 : Int32)) hx hb dX2_bringUpToDate_108 (by decide) ?_
      obtain ⟨c109_443, h⟩ := sm_ck h
      refine sm_aald26 hx hb hE hP (t2_4 ha0) c109_443 dX2_bringUpToDate_109 ?_
      refine sm_get (ci := 0) (C := RX0) (T := TX0) (N := 9) (v := .ref (adr (((a0 + 55) + 1 + 58 * ((1 : Int32)).toNatClampNeg) + 2))) hx hb hts hin0 hown hE hP (te26 (t2_4 ha0) c109_443) rfl rfl 1 (by decide) (hts (.fieldLink RX2 70 "OrderMover$Base" "members" "LOrderMover$Members;") (by decide +kernel)) (fun _ h9 => h9) rfl dX2_bringUpToDate_110 ?_
      refine sm_get (ci := 4) (C := RX4) (T := TX4) (N := 4) (v := .ref (adr ((((a0 + 55) + 1 + 58 * ((1 : Int32)).toNatClampNeg) + 2) + 1))) hx hb hts hin4 hown hE hP (t0_1 (te26 (t2_4 ha0) c109_443)) rfl rfl 1 (by decide) (hts (.fieldLink RX2 74 "OrderMover$Members" "xs" "[I") (by decide +kernel)) (fun _ h9 => h9) rfl dX2_bringUpToDate_113 ?_
      refine lv_iconst (v := (0 : Int32)) hx hb dX2_bringUpToDate_116 (by decide) ?_
      obtain ⟨c117_444, h⟩ := sm_ck h
      refine sm_iald hx hb hE hP (t4_1 (t0_1 (te26 (t2_4 ha0) c109_443))) c117_444 dX2_bringUpToDate_117 ?_
      refine lv_aload_n hx hb dX2_bringUpToDate_118 rfl (lv_at hl 1 rfl) ?_
      refine sm_get (ci := 7) (C := RX7) (T := TX7) (N := 7) (v := .int (M86_439 a1 0)) hx hb hts hin7 hown hE hP ha1 rfl rfl 0 (by decide) (hts (.fieldLink RX2 79 "OrderMover$Setting" "p" "I") (by decide +kernel)) (fun _ h9 => h9) rfl dX2_bringUpToDate_119 ?_
      obtain ⟨M122_446, hc122_447, h⟩ := sm_bd h
      refine sm_cv (va_runV (As := [.ref (adr (((a0 + 55) + 1 + 58 * ((1 : Int32)).toNatClampNeg) + 2)), .int (M86_439 ((((a0 + 55) + 1 + 58 * ((1 : Int32)).toNatClampNeg) + 2) + 1) ((0 : Int32)).toNatClampNeg), .int (M86_439 a1 0)]) (rest := []) ⟨hx, hb, hml, hown, hts⟩ (k_X3_readFrom l D cA adr hJ ((a0 + 40) + 1 + 6 * ((0 : Int32)).toNatClampNeg) (((a0 + 55) + 1 + 58 * ((1 : Int32)).toNatClampNeg) + 2) (M86_439 ((((a0 + 55) + 1 + 58 * ((1 : Int32)).toNatClampNeg) + 2) + 1) ((0 : Int32)).toNatClampNeg) (M86_439 a1 0) (te25 (t2_1 ha0) c94_441) (t0_1 (te26 (t2_4 ha0) c100_442)) M86_439 M122_446 hc122_447) (cwV 3 hts gX2_bringUpToDate_X3_readFrom rfl rfl rfl (by decide +kernel) ⟨Nat.le_of_ble_eq_true rfl, Nat.le_of_ble_eq_true rfl⟩) ⟨smPc_bl, smRv hE hP (te25 (t2_1 ha0) c94_441) rfl (ci := 3) (q := (RX3, TX3, 7)) rfl, smPc_in [.ref (adr ((a0 + 40) + 1 + 6 * ((0 : Int32)).toNatClampNeg)), .ref (adr (((a0 + 55) + 1 + 58 * ((1 : Int32)).toNatClampNeg) + 2)), .int (M86_439 ((((a0 + 55) + 1 + 58 * ((1 : Int32)).toNatClampNeg) + 2) + 1) ((0 : Int32)).toNatClampNeg), .int (M86_439 a1 0)] hE hP⟩ rfl rfl hl.1 rfl (lv_room (Nat.le_of_ble_eq_true rfl)) dX2_bringUpToDate_122 ⟨Nat.zero_le _, Nat.zero_le _⟩) hS (fun H locs hP hS => ?_)
      refine lv_aload_n hx hb dX2_bringUpToDate_125 rfl (lv_at hl 0 rfl) ?_
      refine sm_get (ci := 2) (C := RX2) (T := TX2) (N := 9) (v := .ref (adr (a0 + 40))) hx hb hts hin2 hown hE hP ha0 rfl rfl 1 (by decide) (hts (.fieldLink RX2 20 "OrderMover$Ideal" "leasts" "[LOrderMover$Least;") (by decide +kernel)) (fun _ h9 => h9) rfl dX2_bringUpToDate_126 ?_
      refine lv_iconst (v := (1 : Int32)) hx hb dX2_bringUpToDate_129 (by decide) ?_
      obtain ⟨c130_448, h⟩ := sm_ck h
      refine sm_aald25 hx hb hE hP (t2_1 ha0) c130_448 dX2_bringUpToDate_130 ?_
      refine lv_aload_n hx hb dX2_bringUpToDate_131 rfl (lv_at hl 0 rfl) ?_
      refine sm_get (ci := 2) (C := RX2) (T := TX2) (N := 9) (v := .ref (adr (a0 + 55))) hx hb hts hin2 hown hE hP ha0 rfl rfl 4 (by decide) (hts (.fieldLink RX2 33 "OrderMover$Ideal" "bases" "[LOrderMover$Base;") (by decide +kernel)) (fun _ h9 => h9) rfl dX2_bringUpToDate_132 ?_
      refine lv_iconst (v := (0 : Int32)) hx hb dX2_bringUpToDate_135 (by decide) ?_
      obtain ⟨c136_449, h⟩ := sm_ck h
      refine sm_aald26 hx hb hE hP (t2_4 ha0) c136_449 dX2_bringUpToDate_136 ?_
      refine sm_get (ci := 0) (C := RX0) (T := TX0) (N := 9) (v := .ref (adr (((a0 + 55) + 1 + 58 * ((0 : Int32)).toNatClampNeg) + 2))) hx hb hts hin0 hown hE hP (te26 (t2_4 ha0) c136_449) rfl rfl 1 (by decide) (hts (.fieldLink RX2 70 "OrderMover$Base" "members" "LOrderMover$Members;") (by decide +kernel)) (fun _ h9 => h9) rfl dX2_bringUpToDate_137 ?_
      refine lv_aload_n hx hb dX2_bringUpToDate_140 rfl (lv_at hl 0 rfl) ?_
      refine sm_get (ci := 2) (C := RX2) (T := TX2) (N := 9) (v := .ref (adr (a0 + 55))) hx hb hts hin2 hown hE hP ha0 rfl rfl 4 (by decide) (hts (.fieldLink RX2 33 "OrderMover$Ideal" "bases" "[LOrderMover$Base;") (by decide +kernel)) (fun _ h9 => h9) rfl dX2_bringUpToDate_141 ?_
      refine lv_iconst (v := (0 : Int32)) hx hb dX2_bringUpToDate_144 (by decide) ?_
      obtain ⟨c145_450, h⟩ := sm_ck h
      refine sm_aald26 hx hb hE hP (t2_4 ha0) c145_450 dX2_bringUpToDate_145 ?_
      refine sm_get (ci := 0) (C := RX0) (T := TX0) (N := 9) (v := .ref (adr (((a0 + 55) + 1 + 58 * ((0 : Int32)).toNatClampNeg) + 2))) hx hb hts hin0 hown hE hP (te26 (t2_4 ha0) c145_450) rfl rfl 1 (by decide) (hts (.fieldLink RX2 70 "OrderMover$Base" "members" "LOrderMover$Members;") (by decide +kernel)) (fun _ h9 => h9) rfl dX2_bringUpToDate_146 ?_
      refine sm_get (ci := 4) (C := RX4) (T := TX4) (N := 4) (v := .ref (adr ((((a0 + 55) + 1 + 58 * ((0 : Int32)).toNatClampNeg) + 2) + 2))) hx hb hts hin4 hown hE hP (t0_1 (te26 (t2_4 ha0) c145_450)) rfl rfl 2 (by decide) (hts (.fieldLink RX2 86 "OrderMover$Members" "ys" "[I") (by decide +kernel)) (fun _ h9 => h9) rfl dX2_bringUpToDate_149 ?_
      refine lv_iconst (v := (0 : Int32)) hx hb dX2_bringUpToDate_152 (by decide) ?_
      obtain ⟨c153_451, h⟩ := sm_ck h
      refine sm_iald hx hb hE hP (t4_2 (t0_1 (te26 (t2_4 ha0) c145_450))) c153_451 dX2_bringUpToDate_153 ?_
      refine lv_aload_n hx hb dX2_bringUpToDate_154 rfl (lv_at hl 1 rfl) ?_
      refine sm_get (ci := 7) (C := RX7) (T := TX7) (N := 7) (v := .int (M122_446 a1 0)) hx hb hts hin7 hown hE hP ha1 rfl rfl 0 (by decide) (hts (.fieldLink RX2 79 "OrderMover$Setting" "p" "I") (by decide +kernel)) (fun _ h9 => h9) rfl dX2_bringUpToDate_155 ?_
      obtain ⟨M158_453, hc158_454, h⟩ := sm_bd h
      refine sm_cv (va_runV (As := [.ref (adr (((a0 + 55) + 1 + 58 * ((0 : Int32)).toNatClampNeg) + 2)), .int (M122_446 ((((a0 + 55) + 1 + 58 * ((0 : Int32)).toNatClampNeg) + 2) + 2) ((0 : Int32)).toNatClampNeg), .int (M122_446 a1 0)]) (rest := []) ⟨hx, hb, hml, hown, hts⟩ (k_X3_readFrom l D cA adr hJ ((a0 + 40) + 1 + 6 * ((1 : Int32)).toNatClampNeg) (((a0 + 55) + 1 + 58 * ((0 : Int32)).toNatClampNeg) + 2) (M122_446 ((((a0 + 55) + 1 + 58 * ((0 : Int32)).toNatClampNeg) + 2) + 2) ((0 : Int32)).toNatClampNeg) (M122_446 a1 0) (te25 (t2_1 ha0) c130_448) (t0_1 (te26 (t2_4 ha0) c136_449)) M122_446 M158_453 hc158_454) (cwV 3 hts gX2_bringUpToDate_X3_readFrom rfl rfl rfl (by decide +kernel) ⟨Nat.le_of_ble_eq_true rfl, Nat.le_of_ble_eq_true rfl⟩) ⟨smPc_bl, smRv hE hP (te25 (t2_1 ha0) c130_448) rfl (ci := 3) (q := (RX3, TX3, 7)) rfl, smPc_in [.ref (adr ((a0 + 40) + 1 + 6 * ((1 : Int32)).toNatClampNeg)), .ref (adr (((a0 + 55) + 1 + 58 * ((0 : Int32)).toNatClampNeg) + 2)), .int (M122_446 ((((a0 + 55) + 1 + 58 * ((0 : Int32)).toNatClampNeg) + 2) + 2) ((0 : Int32)).toNatClampNeg), .int (M122_446 a1 0)] hE hP⟩ rfl rfl hl.1 rfl (lv_room (Nat.le_of_ble_eq_true rfl)) dX2_bringUpToDate_158 ⟨Nat.zero_le _, Nat.zero_le _⟩) hS (fun H locs hP hS => ?_)
      refine lv_aload_n hx hb dX2_bringUpToDate_161 rfl (lv_at hl 0 rfl) ?_
      refine lv_iconst (v := (-1 : Int32)) hx hb dX2_bringUpToDate_162 (by decide) ?_
      refine sm_put (ci := 2) (C := RX2) (T := TX2) (N := 9) (ty := .int) hx hb hts hin2 tyX2 tyX2_ok nmX2 hown hE hJ hP hS ha0 rfl rfl 7 (by decide) (hts (.fieldLink RX2 41 "OrderMover$Ideal" "roots" "I") (by decide +kernel)) (fun _ h9 => h9) rfl (by decide +kernel) rfl rfl (Nat.le_of_ble_eq_true rfl) rfl dX2_bringUpToDate_163 (fun H locs hP hS => ?_)
      obtain ⟨M163_455, hM, h⟩ := sm_lt h
      rw [← hM] at hP; clear hM
      refine lv_aload_n hx hb dX2_bringUpToDate_166 rfl (lv_at hl 0 rfl) ?_
      refine lv_iconst (v := (1 : Int32)) hx hb dX2_bringUpToDate_167 (by decide) ?_
      refine sm_put (ci := 2) (C := RX2) (T := TX2) (N := 9) (ty := .boolean) hx hb hts hin2 tyX2 tyX2_ok nmX2 hown hE hJ hP hS ha0 rfl rfl 6 (by decide) (hts (.fieldLink RX2 50 "OrderMover$Ideal" "current" "Z") (by decide +kernel)) (fun _ h9 => h9) rfl (by decide +kernel) (by decide) (by decide) (Nat.le_of_ble_eq_true rfl) rfl dX2_bringUpToDate_168 (fun H locs hP hS => ?_)
      obtain ⟨M168_456, hM, h⟩ := sm_lt h
      rw [← hM] at hP; clear hM
      cases h
      exact sm_vret hx hb hr hlocks hP hS dX2_bringUpToDate_171
    · rw [if_neg c20_432] at h
      refine lv_aload_n hx hb dX2_bringUpToDate_23 rfl (lv_at hl 0 rfl) ?_
      refine sm_get (ci := 2) (C := RX2) (T := TX2) (N := 9) (v := .ref (adr (a0 + 346))) hx hb hts hin2 hown hE hP ha0 rfl rfl 5 (by decide) (hts (.fieldLink RX2 37 "OrderMover$Ideal" "walked" "[Z") (by decide +kernel)) (fun _ h9 => h9) rfl dX2_bringUpToDate_24 ?_
      refine lv_iload_n hx hb dX2_bringUpToDate_27 rfl (lv_at hl 2 rfl) ?_
      refine lv_iload_n hx hb dX2_bringUpToDate_28 rfl (lv_at hl 2 rfl) ?_
      refine lv_iconst (v := (2 : Int32)) hx hb dX2_bringUpToDate_29 (by decide) ?_
      refine lv_icmp_ge (tgt := 37) hx hb dX2_bringUpToDate_30 (by decide) (fun c30_457 => ?_) (fun c30_457 => ?_)
      · rw [if_pos c30_457] at h
        refine lv_iconst (v := (0 : Int32)) hx hb dX2_bringUpToDate_37 (by decide) ?_
        obtain ⟨c38_458, h⟩ := sm_ck h
        refine sm_zast (y := (0 : Int32)) hx hb hE hJ hP hS (t2_5 ha0) (by decide) c38_458 dX2_bringUpToDate_38 (fun H locs hP hS => ?_)
        obtain ⟨M38_459, hM, h⟩ := sm_lt h
        rw [← hM] at hP; clear hM
        refine lv_iinc (v := (x2_18_428 + (1 : Int32))) (lv' := [(2, .int (x2_18_428 + (1 : Int32))), (0, .ref (adr a0)), (1, .ref (adr a1))]) hx hb dX2_bringUpToDate_39 hl (k := 2) rfl (congrArg (fun z => x2_18_428 + z) (by decide)) (by decide) rfl (fun ls hl => ?_)
        refine lv_goto (tgt := 18) hx hb dX2_bringUpToDate_42 (by decide) ?_
        exact ih18_431 ((x2_18_428 + (1 : Int32)), M38_459) _ _ _ h ⟨hP, hS, lv_sub hl [1, 2, 0] rfl⟩
      · rw [if_neg c30_457] at h
        refine lv_iconst (v := (1 : Int32)) hx hb dX2_bringUpToDate_33 (by decide) ?_
        refine lv_goto (tgt := 38) hx hb dX2_bringUpToDate_34 (by decide) ?_
        obtain ⟨c38_460, h⟩ := sm_ck h
        refine sm_zast (y := (1 : Int32)) hx hb hE hJ hP hS (t2_5 ha0) (by decide) c38_460 dX2_bringUpToDate_38 (fun H locs hP hS => ?_)
        obtain ⟨M38_461, hM, h⟩ := sm_lt h
        rw [← hM] at hP; clear hM
        refine lv_iinc (v := (x2_18_428 + (1 : Int32))) (lv' := [(2, .int (x2_18_428 + (1 : Int32))), (0, .ref (adr a0)), (1, .ref (adr a1))]) hx hb dX2_bringUpToDate_39 hl (k := 2) rfl (congrArg (fun z => x2_18_428 + z) (by decide)) (by decide) rfl (fun ls hl => ?_)
        refine lv_goto (tgt := 18) hx hb dX2_bringUpToDate_42 (by decide) ?_
        exact ih18_431 ((x2_18_428 + (1 : Int32)), M38_461) _ _ _ h ⟨hP, hS, lv_sub hl [1, 2, 0] rfl⟩
  · rw [if_neg c4_424] at h
    cases h
    exact sm_vret hx hb hr hlocks hP hS dX2_bringUpToDate_7
set_option maxHeartbeats 4000000 in
set_option maxRecDepth 100000 in
theorem k_X7_isZeroAt (l : Launch) (D : va_G) (cA : Nat → ClassId) (adr : Nat → Nat) (hJ : smJ 1 adr) (a0 : Nat) (x1 : Int32) (x2 : Int32) (x3 : Int32) (ha0 : smT 1 a0 7) (M : smM) (v1 : Int32) (h : m_X7_isZeroAt a0 x1 x2 x3 M = some v1) : Met l yX7_isZeroAt wsX7_isZeroAt ({ frames := 1, cells := 0, slots := 0, locals := 22 }) (smPc D cA 1 adr M [.ref (adr a0), .int x1, .int x2, .int x3]) (smQi D cA 1 adr M v1) 0 0 (smA 1 adr) := by
  refine Met.ofW (cc := cX7_isZeroAt) (maxL := 11) (ret := (some .boolean)) (by decide) rfl ?_
  intro p e s m args below meth c s₁ B hml hv
  obtain ⟨rfl, hE, hP⟩ := hv
  have hx := B.exec
  have hb := B.bytes
  have hr := B.returns
  have hts := atoms_spec (ws := wsX7_isZeroAt) B.pre
  have hown : s.vm.findClass RX7 = some m.cls := findClass_of_methodNamed B.named
  have hlocks := B.notSynchronized
  have hS : va_S (smA 1 adr) s.heap s.heap [] := va_S.rf
  have hP : smP D cA 1 adr M s.heap := hP
  have hl := lv_entry ([.ref (adr a0), .int x1, .int x2, .int x3]) (n := 11) (Nat.le_of_ble_eq_true rfl)
  rw [lg_entry_eq]
  generalize (lg_sl ([.ref (adr a0), .int x1, .int x2, .int x3]) ++ List.replicate (11 - (lg_sl ([.ref (adr a0), .int x1, .int x2, .int x3])).length) Slot.unset).toArray = ls at hl ⊢
  have hl : lv_has ls 11 [(0, .ref (adr a0)), (1, .int x1), (2, .int x2), (3, .int x3)] := hl
  unfold m_X7_isZeroAt at h
  have hin7 : ∀ w ∈ u_ws RX7 TX7 7, w ∈ wsX7_isZeroAt := by decide +kernel
  refine lv_aload_n hx hb dX7_isZeroAt_0 rfl (lv_at hl 0 rfl) ?_
  refine lv_iload_n hx hb dX7_isZeroAt_1 rfl (lv_at hl 1 rfl) ?_
  obtain ⟨v2_462, hc2_464, h⟩ := sm_bd h
  refine sm_cr (va_runV (As := [.int x1]) (rest := []) ⟨hx, hb, hml, hown, hts⟩ (k_X7_coefficients l D cA adr hJ a0 x1 ha0 M v2_462 hc2_464) (cwV 1 hts gX7_isZeroAt_X7_coefficients rfl rfl rfl (by decide +kernel) ⟨Nat.le_of_ble_eq_true rfl, Nat.le_of_ble_eq_true rfl⟩) ⟨smPc_bl, smRv hE hP ha0 rfl (ci := 7) (q := (RX7, TX7, 7)) rfl, smPc_in [.ref (adr a0), .int x1] hE hP⟩ rfl rfl hl.1 rfl (lv_room (Nat.le_of_ble_eq_true rfl)) dX7_isZeroAt_2 ⟨Nat.zero_le _, Nat.zero_le _⟩) hS (fun H locs hk2_465 hP hS => ?_)
  refine lv_astore (lv' := [(4, .ref (adr v2_462)), (0, .ref (adr a0)), (1, .int x1), (2, .int x2), (3, .int x3)]) hx hb dX7_isZeroAt_5 hl (by decide) rfl (fun ls hl => ?_)
  refine lv_aload_n hx hb dX7_isZeroAt_7 rfl (lv_at hl 1 rfl) ?_
  refine lv_iload_n hx hb dX7_isZeroAt_8 rfl (lv_at hl 2 rfl) ?_
  obtain ⟨v9_466, hc9_468, h⟩ := sm_bd h
  refine sm_ci (va_runV (As := [.int x1]) (rest := []) ⟨hx, hb, hml, hown, hts⟩ (k_X7_power l D cA adr hJ a0 x1 ha0 M v9_466 hc9_468) (cwV 1 hts gX7_isZeroAt_X7_power rfl rfl rfl (by decide +kernel) ⟨Nat.le_of_ble_eq_true rfl, Nat.le_of_ble_eq_true rfl⟩) ⟨smPc_bl, smRv hE hP ha0 rfl (ci := 7) (q := (RX7, TX7, 7)) rfl, smPc_in [.ref (adr a0), .int x1] hE hP⟩ rfl rfl hl.1 rfl (lv_room (Nat.le_of_ble_eq_true rfl)) dX7_isZeroAt_9 ⟨Nat.zero_le _, Nat.zero_le _⟩) hS (fun H locs hP hS => ?_)
  refine lv_istore (lv' := [(5, .int v9_466), (4, .ref (adr v2_462)), (0, .ref (adr a0)), (1, .int x1), (2, .int x2), (3, .int x3)]) hx hb dX7_isZeroAt_12 hl (by decide) rfl (fun ls hl => ?_)
  refine lv_iconst (v := (1 : Int32)) hx hb dX7_isZeroAt_14 (by decide) ?_
  refine lv_istore (lv' := [(6, .int (1 : Int32)), (5, .int v9_466), (4, .ref (adr v2_462)), (0, .ref (adr a0)), (1, .int x1), (2, .int x2), (3, .int x3)]) hx hb dX7_isZeroAt_15 hl (by decide) rfl (fun ls hl => ?_)
  refine lv_iconst (v := (0 : Int32)) hx hb dX7_isZeroAt_17 (by decide) ?_
  refine lv_istore (lv' := [(7, .int (0 : Int32)), (6, .int (1 : Int32)), (5, .int v9_466), (4, .ref (adr v2_462)), (0, .ref (adr a0)), (1, .int x1), (2, .int x2), (3, .int x3)]) hx hb dX7_isZeroAt_18 hl (by decide) rfl (fun ls hl => ?_)
  refine sm_lp (b := fun rc q => m_X7_isZeroAt_b20 a0 x1 x2 x3 v2_462 v9_466 M rc q.1 q.2) (P := fun (q : Int32 × Int32) H locs ls => smP D cA 1 adr M H ∧ va_S (smA 1 adr) s.heap H locs ∧ lv_has ls 11 [(0, .ref (adr a0)), (1, .int x1), (2, .int x2), (3, .int x3), (4, .ref (adr v2_462)), (5, .int v9_466), (6, .int q.1), (7, .int q.2)]) (pc := 20) ?_ _ _ _ _ _ h ⟨hP, hS, lv_sub hl [4, 5, 6, 7, 3, 2, 1, 0] rfl⟩
  intro rc20_471 ih20_472 q H locs ls h hI
  obtain ⟨x6_20_469, x7_20_470⟩ := q
  obtain ⟨hP, hS, hl⟩ := hI
  have hP : smP D cA 1 adr M H := hP
  have hl : lv_has ls 11 [(0, .ref (adr a0)), (1, .int x1), (2, .int x2), (3, .int x3), (4, .ref (adr v2_462)), (5, .int v9_466), (6, .int x6_20_469), (7, .int x7_20_470)] := hl
  have h : m_X7_isZeroAt_b20 a0 x1 x2 x3 v2_462 v9_466 M rc20_471 x6_20_469 x7_20_470 = some _ := h
  unfold m_X7_isZeroAt_b20 at h
  refine lv_iload hx hb dX7_isZeroAt_20 (lv_at hl 7 rfl) ?_
  refine lv_iload hx hb dX7_isZeroAt_22 (lv_at hl 5 rfl) ?_
  refine lv_icmp_ge (tgt := 54) hx hb dX7_isZeroAt_24 (by decide) (fun c24_473 => ?_) (fun c24_473 => ?_)
  · rw [if_pos c24_473] at h
    refine lv_iconst (v := (1 : Int32)) hx hb dX7_isZeroAt_54 (by decide) ?_
    refine lv_istore (lv' := [(7, .int (1 : Int32)), (0, .ref (adr a0)), (1, .int x1), (2, .int x2), (3, .int x3), (4, .ref (adr v2_462)), (5, .int v9_466), (6, .int x6_20_469)]) hx hb dX7_isZeroAt_55 hl (by decide) rfl (fun ls hl => ?_)
    refine lv_iconst (v := (0 : Int32)) hx hb dX7_isZeroAt_57 (by decide) ?_
    refine lv_istore (lv' := [(8, .int (0 : Int32)), (7, .int (1 : Int32)), (0, .ref (adr a0)), (1, .int x1), (2, .int x2), (3, .int x3), (4, .ref (adr v2_462)), (5, .int v9_466), (6, .int x6_20_469)]) hx hb dX7_isZeroAt_58 hl (by decide) rfl (fun ls hl => ?_)
    refine sm_lp (b := fun rc q => m_X7_isZeroAt_b60 a0 x2 x3 v2_462 v9_466 M rc20_471 rc q.1 q.2.1 q.2.2) (P := fun (q : Int32 × Int32 × Int32) H locs ls => smP D cA 1 adr M H ∧ va_S (smA 1 adr) s.heap H locs ∧ lv_has ls 11 [(0, .ref (adr a0)), (2, .int x2), (3, .int x3), (4, .ref (adr v2_462)), (5, .int v9_466), (6, .int q.1), (7, .int q.2.1), (8, .int q.2.2)]) (pc := 60) ?_ _ _ _ _ _ h ⟨hP, hS, lv_sub hl [2, 4, 5, 6, 7, 8, 1, 0] rfl⟩
    intro rc60_477 ih60_478 q H locs ls h hI
    obtain ⟨x6_60_474, x7_60_475, x8_60_476⟩ := q
    obtain ⟨hP, hS, hl⟩ := hI
    have hP : smP D cA 1 adr M H := hP
    have hl : lv_has ls 11 [(0, .ref (adr a0)), (2, .int x2), (3, .int x3), (4, .ref (adr v2_462)), (5, .int v9_466), (6, .int x6_60_474), (7, .int x7_60_475), (8, .int x8_60_476)] := hl
    have h : m_X7_isZeroAt_b60 a0 x2 x3 v2_462 v9_466 M rc20_471 rc60_477 x6_60_474 x7_60_475 x8_60_476 = some _ := h
    unfold m_X7_isZeroAt_b60 at h
    refine lv_iload hx hb dX7_isZeroAt_60 (lv_at hl 7 rfl) ?_
    refine lv_iload hx hb dX7_isZeroAt_62 (lv_at hl 4 rfl) ?_
    refine lv_icmp_ge (tgt := 147) hx hb dX7_isZeroAt_64 (by decide) (fun c64_479 => ?_) (fun c64_479 => ?_)
    · rw [if_pos c64_479] at h
      refine lv_iload hx hb dX7_isZeroAt_147 (lv_at hl 5 rfl) ?_
      refine lv_if_ne (tgt := 156) hx hb dX7_isZeroAt_149 (by decide) (fun c149_480 => ?_) (fun c149_480 => ?_)
      · rw [if_neg c149_480] at h
        refine lv_iconst (v := (0 : Int32)) hx hb dX7_isZeroAt_156 (by decide) ?_
        cases h
        exact sm_zret (by first | rfl | decide) hx hb hr hlocks hP hS dX7_isZeroAt_157
      · rw [if_pos c149_480] at h
        refine lv_iconst (v := (1 : Int32)) hx hb dX7_isZeroAt_152 (by decide) ?_
        refine lv_goto (tgt := 157) hx hb dX7_isZeroAt_153 (by decide) ?_
        cases h
        exact sm_zret (by first | rfl | decide) hx hb hr hlocks hP hS dX7_isZeroAt_157
    · rw [if_neg c64_479] at h
      refine lv_iload hx hb dX7_isZeroAt_67 (lv_at hl 6 rfl) ?_
      refine lv_istore (lv' := [(9, .int x7_60_475), (0, .ref (adr a0)), (2, .int x2), (3, .int x3), (4, .ref (adr v2_462)), (5, .int v9_466), (6, .int x6_60_474), (7, .int x7_60_475), (8, .int x8_60_476)]) hx hb dX7_isZeroAt_69 hl (by decide) rfl (fun ls hl => ?_)
      refine lv_iconst (v := (0 : Int32)) hx hb dX7_isZeroAt_71 (by decide) ?_
      refine lv_istore (lv' := [(10, .int (0 : Int32)), (9, .int x7_60_475), (0, .ref (adr a0)), (2, .int x2), (3, .int x3), (4, .ref (adr v2_462)), (5, .int v9_466), (6, .int x6_60_474), (7, .int x7_60_475), (8, .int x8_60_476)]) hx hb dX7_isZeroAt_72 hl (by decide) rfl (fun ls hl => ?_)
      refine sm_lp (b := fun rc q => m_X7_isZeroAt_b74 a0 x2 x3 v2_462 v9_466 x7_60_475 x8_60_476 M rc20_471 rc60_477 rc q.1 q.2.1 q.2.2) (P := fun (q : Int32 × Int32 × Int32) H locs ls => smP D cA 1 adr M H ∧ va_S (smA 1 adr) s.heap H locs ∧ lv_has ls 11 [(0, .ref (adr a0)), (2, .int x2), (3, .int x3), (4, .ref (adr v2_462)), (5, .int v9_466), (6, .int q.1), (7, .int x7_60_475), (8, .int x8_60_476), (9, .int q.2.1), (10, .int q.2.2)]) (pc := 74) ?_ _ _ _ _ _ h ⟨hP, hS, lv_sub hl [2, 3, 4, 5, 6, 7, 8, 9, 1, 0] rfl⟩
      intro rc74_484 ih74_485 q H locs ls h hI
      obtain ⟨x6_74_481, x9_74_482, x10_74_483⟩ := q
      obtain ⟨hP, hS, hl⟩ := hI
      have hP : smP D cA 1 adr M H := hP
      have hl : lv_has ls 11 [(0, .ref (adr a0)), (2, .int x2), (3, .int x3), (4, .ref (adr v2_462)), (5, .int v9_466), (6, .int x6_74_481), (7, .int x7_60_475), (8, .int x8_60_476), (9, .int x9_74_482), (10, .int x10_74_483)] := hl
      have h : m_X7_isZeroAt_b74 a0 x2 x3 v2_462 v9_466 x7_60_475 x8_60_476 M rc20_471 rc60_477 rc74_484 x6_74_481 x9_74_482 x10_74_483 = some _ := h
      unfold m_X7_isZeroAt_b74 at h
      refine lv_iload hx hb dX7_isZeroAt_74 (lv_at hl 9 rfl) ?_
      refine lv_iload hx hb dX7_isZeroAt_76 (lv_at hl 4 rfl) ?_
      refine lv_iload hx hb dX7_isZeroAt_78 (lv_at hl 7 rfl) ?_
      refine lv_isub hx hb dX7_isZeroAt_80 ?_
      refine lv_icmp_ge (tgt := 128) hx hb dX7_isZeroAt_81 (by decide) (fun c81_486 => ?_) (fun c81_486 => ?_)
      · rw [if_pos c81_486] at h
        refine lv_iload hx hb dX7_isZeroAt_128 (lv_at hl 6 rfl) ?_
        refine lv_iload_n hx hb dX7_isZeroAt_130 rfl (lv_at hl 2 rfl) ?_
        refine lv_imul hx hb dX7_isZeroAt_131 ?_
        refine lv_aload_n hx hb dX7_isZeroAt_132 rfl (lv_at hl 0 rfl) ?_
        refine sm_get (ci := 7) (C := RX7) (T := TX7) (N := 7) (v := .int (M a0 0)) hx hb hts hin7 hown hE hP ha0 rfl rfl 0 (by decide) (hts (.fieldLink RX7 9 "OrderMover$Setting" "p" "I") (by decide +kernel)) (fun _ h9 => h9) rfl dX7_isZeroAt_133 ?_
        obtain ⟨v136_487, hc136_489, h⟩ := sm_bd h
        refine sm_ci (va_runSN (As := [.int (x7_60_475 * x3), .int (M a0 0)]) (rest := []) ⟨hx, hb, hml, hown, hts⟩ (k_X11_leftOver l D cA adr hJ (x7_60_475 * x3) (M a0 0)  M v136_487 hc136_489) ⟨va_cnB (host := "OrderMover") 2 hts gX7_isZeroAt_X11_leftOver_n54 rfl rfl rfl (hE.2 (RX7, 54, yX11_leftOver, "OrderMover") (by decide +kernel)) (hts (.initialized RX11) (by decide +kernel)) (by decide +kernel) ⟨Nat.le_of_ble_eq_true rfl, Nat.le_of_ble_eq_true rfl⟩, hts (.static yX11_leftOver) (by decide +kernel), trivial⟩ ⟨smPc_bl, smPc_in [.int (x7_60_475 * x3), .int (M a0 0)] hE hP⟩ rfl rfl hl.1 rfl (lv_room (Nat.le_of_ble_eq_true rfl)) dX7_isZeroAt_136 ⟨Nat.zero_le _, Nat.zero_le _⟩) hS (fun H locs hP hS => ?_)
        refine lv_istore (lv' := [(7, .int v136_487), (0, .ref (adr a0)), (2, .int x2), (3, .int x3), (4, .ref (adr v2_462)), (5, .int v9_466), (6, .int x6_74_481), (8, .int x8_60_476), (9, .int x9_74_482), (10, .int x10_74_483)]) hx hb dX7_isZeroAt_139 hl (by decide) rfl (fun ls hl => ?_)
        refine lv_iinc (v := (x8_60_476 + (1 : Int32))) (lv' := [(8, .int (x8_60_476 + (1 : Int32))), (7, .int v136_487), (0, .ref (adr a0)), (2, .int x2), (3, .int x3), (4, .ref (adr v2_462)), (5, .int v9_466), (6, .int x6_74_481), (9, .int x9_74_482), (10, .int x10_74_483)]) hx hb dX7_isZeroAt_141 hl (k := 7) rfl (congrArg (fun z => x8_60_476 + z) (by decide)) (by decide) rfl (fun ls hl => ?_)
        refine lv_goto (tgt := 60) hx hb dX7_isZeroAt_144 (by decide) ?_
        exact ih60_478 (x6_74_481, v136_487, (x8_60_476 + (1 : Int32))) _ _ _ h ⟨hP, hS, lv_sub hl [2, 3, 4, 5, 6, 7, 1, 0] rfl⟩
      · rw [if_neg c81_486] at h
        refine lv_iload hx hb dX7_isZeroAt_84 (lv_at hl 5 rfl) ?_
        refine lv_aload hx hb dX7_isZeroAt_86 (lv_at hl 3 rfl) ?_
        refine lv_iconst (v := (3 : Int32)) hx hb dX7_isZeroAt_88 (by decide) ?_
        refine lv_iload hx hb dX7_isZeroAt_89 (lv_at hl 7 rfl) ?_
        refine lv_imul hx hb dX7_isZeroAt_91 ?_
        refine lv_iload hx hb dX7_isZeroAt_92 (lv_at hl 9 rfl) ?_
        refine lv_iadd hx hb dX7_isZeroAt_94 ?_
        obtain ⟨c95_490, h⟩ := sm_ck h
        refine sm_iald hx hb hE hP hk2_465 c95_490 dX7_isZeroAt_95 ?_
        refine lv_iload hx hb dX7_isZeroAt_96 (lv_at hl 8 rfl) ?_
        refine lv_imul hx hb dX7_isZeroAt_98 ?_
        refine lv_iadd hx hb dX7_isZeroAt_99 ?_
        refine lv_aload_n hx hb dX7_isZeroAt_100 rfl (lv_at hl 0 rfl) ?_
        refine sm_get (ci := 7) (C := RX7) (T := TX7) (N := 7) (v := .int (M a0 0)) hx hb hts hin7 hown hE hP ha0 rfl rfl 0 (by decide) (hts (.fieldLink RX7 9 "OrderMover$Setting" "p" "I") (by decide +kernel)) (fun _ h9 => h9) rfl dX7_isZeroAt_101 ?_
        obtain ⟨v104_491, hc104_493, h⟩ := sm_bd h
        refine sm_ci (va_runSN (As := [.int (x6_74_481 + ((M v2_462 ((((3 : Int32) * x8_60_476) + x10_74_483)).toNatClampNeg) * x9_74_482)), .int (M a0 0)]) (rest := []) ⟨hx, hb, hml, hown, hts⟩ (k_X11_leftOver l D cA adr hJ (x6_74_481 + ((M v2_462 ((((3 : Int32) * x8_60_476) + x10_74_483)).toNatClampNeg) * x9_74_482)) (M a0 0)  M v104_491 hc104_493) ⟨va_cnB (host := "OrderMover") 2 hts gX7_isZeroAt_X11_leftOver_n54 rfl rfl rfl (hE.2 (RX7, 54, yX11_leftOver, "OrderMover") (by decide +kernel)) (hts (.initialized RX11) (by decide +kernel)) (by decide +kernel) ⟨Nat.le_of_ble_eq_true rfl, Nat.le_of_ble_eq_true rfl⟩, hts (.static yX11_leftOver) (by decide +kernel), trivial⟩ ⟨smPc_bl, smPc_in [.int (x6_74_481 + ((M v2_462 ((((3 : Int32) * x8_60_476) + x10_74_483)).toNatClampNeg) * x9_74_482)), .int (M a0 0)] hE hP⟩ rfl rfl hl.1 rfl (lv_room (Nat.le_of_ble_eq_true rfl)) dX7_isZeroAt_104 ⟨Nat.zero_le _, Nat.zero_le _⟩) hS (fun H locs hP hS => ?_)
        refine lv_istore (lv' := [(6, .int v104_491), (0, .ref (adr a0)), (2, .int x2), (3, .int x3), (4, .ref (adr v2_462)), (5, .int v9_466), (7, .int x7_60_475), (8, .int x8_60_476), (9, .int x9_74_482), (10, .int x10_74_483)]) hx hb dX7_isZeroAt_107 hl (by decide) rfl (fun ls hl => ?_)
        refine lv_iload hx hb dX7_isZeroAt_109 (lv_at hl 8 rfl) ?_
        refine lv_iload_n hx hb dX7_isZeroAt_111 rfl (lv_at hl 2 rfl) ?_
        refine lv_imul hx hb dX7_isZeroAt_112 ?_
        refine lv_aload_n hx hb dX7_isZeroAt_113 rfl (lv_at hl 1 rfl) ?_
        refine sm_get (ci := 7) (C := RX7) (T := TX7) (N := 7) (v := .int (M a0 0)) hx hb hts hin7 hown hE hP ha0 rfl rfl 0 (by decide) (hts (.fieldLink RX7 9 "OrderMover$Setting" "p" "I") (by decide +kernel)) (fun _ h9 => h9) rfl dX7_isZeroAt_114 ?_
        obtain ⟨v117_494, hc117_496, h⟩ := sm_bd h
        refine sm_ci (va_runSN (As := [.int (x9_74_482 * x2), .int (M a0 0)]) (rest := []) ⟨hx, hb, hml, hown, hts⟩ (k_X11_leftOver l D cA adr hJ (x9_74_482 * x2) (M a0 0)  M v117_494 hc117_496) ⟨va_cnB (host := "OrderMover") 2 hts gX7_isZeroAt_X11_leftOver_n54 rfl rfl rfl (hE.2 (RX7, 54, yX11_leftOver, "OrderMover") (by decide +kernel)) (hts (.initialized RX11) (by decide +kernel)) (by decide +kernel) ⟨Nat.le_of_ble_eq_true rfl, Nat.le_of_ble_eq_true rfl⟩, hts (.static yX11_leftOver) (by decide +kernel), trivial⟩ ⟨smPc_bl, smPc_in [.int (x9_74_482 * x2), .int (M a0 0)] hE hP⟩ rfl rfl hl.1 rfl (lv_room (Nat.le_of_ble_eq_true rfl)) dX7_isZeroAt_117 ⟨Nat.zero_le _, Nat.zero_le _⟩) hS (fun H locs hP hS => ?_)
        refine lv_istore (lv' := [(9, .int v117_494), (6, .int v104_491), (0, .ref (adr a0)), (2, .int x2), (3, .int x3), (4, .ref (adr v2_462)), (5, .int v9_466), (7, .int x7_60_475), (8, .int x8_60_476), (10, .int x10_74_483)]) hx hb dX7_isZeroAt_120 hl (by decide) rfl (fun ls hl => ?_)
        refine lv_iinc (v := (x10_74_483 + (1 : Int32))) (lv' := [(10, .int (x10_74_483 + (1 : Int32))), (9, .int v117_494), (6, .int v104_491), (0, .ref (adr a0)), (2, .int x2), (3, .int x3), (4, .ref (adr v2_462)), (5, .int v9_466), (7, .int x7_60_475), (8, .int x8_60_476)]) hx hb dX7_isZeroAt_122 hl (k := 9) rfl (congrArg (fun z => x10_74_483 + z) (by decide)) (by decide) rfl (fun ls hl => ?_)
        refine lv_goto (tgt := 74) hx hb dX7_isZeroAt_125 (by decide) ?_
        exact ih74_485 (v104_491, v117_494, (x10_74_483 + (1 : Int32))) _ _ _ h ⟨hP, hS, lv_sub hl [3, 4, 5, 6, 7, 2, 8, 9, 1, 0] rfl⟩
  · rw [if_neg c24_473] at h
    refine lv_iload hx hb dX7_isZeroAt_27 (lv_at hl 6 rfl) ?_
    refine lv_iload_n hx hb dX7_isZeroAt_29 rfl (lv_at hl 1 rfl) ?_
    refine lv_if_ne (tgt := 37) hx hb dX7_isZeroAt_30 (by decide) (fun c30_497 => ?_) (fun c30_497 => ?_)
    · rw [if_neg c30_497] at h
      refine lv_iload_n hx hb dX7_isZeroAt_37 rfl (lv_at hl 3 rfl) ?_
      refine lv_imul hx hb dX7_isZeroAt_38 ?_
      refine lv_aload_n hx hb dX7_isZeroAt_39 rfl (lv_at hl 0 rfl) ?_
      refine sm_get (ci := 7) (C := RX7) (T := TX7) (N := 7) (v := .int (M a0 0)) hx hb hts hin7 hown hE hP ha0 rfl rfl 0 (by decide) (hts (.fieldLink RX7 9 "OrderMover$Setting" "p" "I") (by decide +kernel)) (fun _ h9 => h9) rfl dX7_isZeroAt_40 ?_
      obtain ⟨v43_498, hc43_500, h⟩ := sm_bd h
      refine sm_ci (va_runSN (As := [.int (x6_20_469 * x3), .int (M a0 0)]) (rest := []) ⟨hx, hb, hml, hown, hts⟩ (k_X11_leftOver l D cA adr hJ (x6_20_469 * x3) (M a0 0)  M v43_498 hc43_500) ⟨va_cnB (host := "OrderMover") 2 hts gX7_isZeroAt_X11_leftOver_n54 rfl rfl rfl (hE.2 (RX7, 54, yX11_leftOver, "OrderMover") (by decide +kernel)) (hts (.initialized RX11) (by decide +kernel)) (by decide +kernel) ⟨Nat.le_of_ble_eq_true rfl, Nat.le_of_ble_eq_true rfl⟩, hts (.static yX11_leftOver) (by decide +kernel), trivial⟩ ⟨smPc_bl, smPc_in [.int (x6_20_469 * x3), .int (M a0 0)] hE hP⟩ rfl rfl hl.1 rfl (lv_room (Nat.le_of_ble_eq_true rfl)) dX7_isZeroAt_43 ⟨Nat.zero_le _, Nat.zero_le _⟩) hS (fun H locs hP hS => ?_)
      refine lv_istore (lv' := [(6, .int v43_498), (0, .ref (adr a0)), (1, .int x1), (2, .int x2), (3, .int x3), (4, .ref (adr v2_462)), (5, .int v9_466), (7, .int x7_20_470)]) hx hb dX7_isZeroAt_46 hl (by decide) rfl (fun ls hl => ?_)
      refine lv_iinc (v := (x7_20_470 + (1 : Int32))) (lv' := [(7, .int (x7_20_470 + (1 : Int32))), (6, .int v43_498), (0, .ref (adr a0)), (1, .int x1), (2, .int x2), (3, .int x3), (4, .ref (adr v2_462)), (5, .int v9_466)]) hx hb dX7_isZeroAt_48 hl (k := 7) rfl (congrArg (fun z => x7_20_470 + z) (by decide)) (by decide) rfl (fun ls hl => ?_)
      refine lv_goto (tgt := 20) hx hb dX7_isZeroAt_51 (by decide) ?_
      exact ih20_472 (v43_498, (x7_20_470 + (1 : Int32))) _ _ _ h ⟨hP, hS, lv_sub hl [2, 3, 4, 5, 6, 7, 1, 0] rfl⟩
    · rw [if_pos c30_497] at h
      refine lv_iload_n hx hb dX7_isZeroAt_33 rfl (lv_at hl 2 rfl) ?_
      refine lv_goto (tgt := 38) hx hb dX7_isZeroAt_34 (by decide) ?_
      refine lv_imul hx hb dX7_isZeroAt_38 ?_
      refine lv_aload_n hx hb dX7_isZeroAt_39 rfl (lv_at hl 0 rfl) ?_
      refine sm_get (ci := 7) (C := RX7) (T := TX7) (N := 7) (v := .int (M a0 0)) hx hb hts hin7 hown hE hP ha0 rfl rfl 0 (by decide) (hts (.fieldLink RX7 9 "OrderMover$Setting" "p" "I") (by decide +kernel)) (fun _ h9 => h9) rfl dX7_isZeroAt_40 ?_
      obtain ⟨v43_501, hc43_503, h⟩ := sm_bd h
      refine sm_ci (va_runSN (As := [.int (x6_20_469 * x2), .int (M a0 0)]) (rest := []) ⟨hx, hb, hml, hown, hts⟩ (k_X11_leftOver l D cA adr hJ (x6_20_469 * x2) (M a0 0)  M v43_501 hc43_503) ⟨va_cnB (host := "OrderMover") 2 hts gX7_isZeroAt_X11_leftOver_n54 rfl rfl rfl (hE.2 (RX7, 54, yX11_leftOver, "OrderMover") (by decide +kernel)) (hts (.initialized RX11) (by decide +kernel)) (by decide +kernel) ⟨Nat.le_of_ble_eq_true rfl, Nat.le_of_ble_eq_true rfl⟩, hts (.static yX11_leftOver) (by decide +kernel), trivial⟩ ⟨smPc_bl, smPc_in [.int (x6_20_469 * x2), .int (M a0 0)] hE hP⟩ rfl rfl hl.1 rfl (lv_room (Nat.le_of_ble_eq_true rfl)) dX7_isZeroAt_43 ⟨Nat.zero_le _, Nat.zero_le _⟩) hS (fun H locs hP hS => ?_)
      refine lv_istore (lv' := [(6, .int v43_501), (0, .ref (adr a0)), (1, .int x1), (2, .int x2), (3, .int x3), (4, .ref (adr v2_462)), (5, .int v9_466), (7, .int x7_20_470)]) hx hb dX7_isZeroAt_46 hl (by decide) rfl (fun ls hl => ?_)
      refine lv_iinc (v := (x7_20_470 + (1 : Int32))) (lv' := [(7, .int (x7_20_470 + (1 : Int32))), (6, .int v43_501), (0, .ref (adr a0)), (1, .int x1), (2, .int x2), (3, .int x3), (4, .ref (adr v2_462)), (5, .int v9_466)]) hx hb dX7_isZeroAt_48 hl (k := 7) rfl (congrArg (fun z => x7_20_470 + z) (by decide)) (by decide) rfl (fun ls hl => ?_)
      refine lv_goto (tgt := 20) hx hb dX7_isZeroAt_51 (by decide) ?_
      exact ih20_472 (v43_501, (x7_20_470 + (1 : Int32))) _ _ _ h ⟨hP, hS, lv_sub hl [2, 3, 4, 5, 6, 7, 1, 0] rfl⟩
set_option maxHeartbeats 4000000 in
set_option maxRecDepth 100000 in
theorem k_X3_isZeroAt (l : Launch) (D : va_G) (cA : Nat → ClassId) (adr : Nat → Nat) (hJ : smJ 1 adr) (a0 : Nat) (x1 : Int32) (ha0 : smT 1 a0 3) (M : smM) (v1 : Int32) (h : m_X3_isZeroAt a0 x1 M = some v1) : Met l yX3_isZeroAt wsX3_isZeroAt ({ frames := 1, cells := 0, slots := 0, locals := 22 }) (smPc D cA 1 adr M [.ref (adr a0), .int x1]) (smQi D cA 1 adr M v1) 0 0 (smA 1 adr) := by
  refine Met.ofW (cc := cX3_isZeroAt) (maxL := 4) (ret := (some .boolean)) (by decide) rfl ?_
  intro p e s m args below meth c s₁ B hml hv
  obtain ⟨rfl, hE, hP⟩ := hv
  have hx := B.exec
  have hb := B.bytes
  have hr := B.returns
  have hts := atoms_spec (ws := wsX3_isZeroAt) B.pre
  have hown : s.vm.findClass RX3 = some m.cls := findClass_of_methodNamed B.named
  have hlocks := B.notSynchronized
  have hS : va_S (smA 1 adr) s.heap s.heap [] := va_S.rf
  have hP : smP D cA 1 adr M s.heap := hP
  have hl := lv_entry ([.ref (adr a0), .int x1]) (n := 4) (Nat.le_of_ble_eq_true rfl)
  rw [lg_entry_eq]
  generalize (lg_sl ([.ref (adr a0), .int x1]) ++ List.replicate (4 - (lg_sl ([.ref (adr a0), .int x1])).length) Slot.unset).toArray = ls at hl ⊢
  have hl : lv_has ls 4 [(0, .ref (adr a0)), (1, .int x1)] := hl
  unfold m_X3_isZeroAt at h
  have hin3 : ∀ w ∈ u_ws RX3 TX3 7, w ∈ wsX3_isZeroAt := by decide +kernel
  refine lv_iconst (v := (0 : Int32)) hx hb dX3_isZeroAt_0 (by decide) ?_
  refine lv_istore_n (lv' := [(2, .int (0 : Int32)), (0, .ref (adr a0)), (1, .int x1)]) hx hb dX3_isZeroAt_1 rfl hl (by decide) rfl (fun ls hl => ?_)
  refine lv_aload_n hx hb dX3_isZeroAt_2 rfl (lv_at hl 1 rfl) ?_
  refine sm_get (ci := 3) (C := RX3) (T := TX3) (N := 7) (v := .int (M a0 0)) hx hb hts hin3 hown hE hP ha0 rfl rfl 0 (by decide) (hts (.fieldLink RX3 37 "OrderMover$Least" "high" "I") (by decide +kernel)) (fun _ h9 => h9) rfl dX3_isZeroAt_3 ?_
  refine lv_istore_n (lv' := [(3, .int (M a0 0)), (2, .int (0 : Int32)), (0, .ref (adr a0)), (1, .int x1)]) hx hb dX3_isZeroAt_6 rfl hl (by decide) rfl (fun ls hl => ?_)
  refine sm_lp (b := fun rc q => m_X3_isZeroAt_b7 a0 x1 M rc q.1 q.2) (P := fun (q : Int32 × Int32) H locs ls => smP D cA 1 adr M H ∧ va_S (smA 1 adr) s.heap H locs ∧ lv_has ls 4 [(0, .ref (adr a0)), (1, .int x1), (2, .int q.1), (3, .int q.2)]) (pc := 7) ?_ _ _ _ _ _ h ⟨hP, hS, lv_sub hl [2, 3, 1, 0] rfl⟩
  intro rc7_506 ih7_507 q H locs ls h hI
  obtain ⟨x2_7_504, x3_7_505⟩ := q
  obtain ⟨hP, hS, hl⟩ := hI
  have hP : smP D cA 1 adr M H := hP
  have hl : lv_has ls 4 [(0, .ref (adr a0)), (1, .int x1), (2, .int x2_7_504), (3, .int x3_7_505)] := hl
  have h : m_X3_isZeroAt_b7 a0 x1 M rc7_506 x2_7_504 x3_7_505 = some _ := h
  unfold m_X3_isZeroAt_b7 at h
  refine lv_iload_n hx hb dX3_isZeroAt_7 rfl (lv_at hl 3 rfl) ?_
  refine lv_if_lt (tgt := 35) hx hb dX3_isZeroAt_8 (by decide) (fun c8_508 => ?_) (fun c8_508 => ?_)
  · rw [if_pos c8_508] at h
    refine lv_iload_n hx hb dX3_isZeroAt_35 rfl (lv_at hl 2 rfl) ?_
    refine lv_if_ne (tgt := 43) hx hb dX3_isZeroAt_36 (by decide) (fun c36_509 => ?_) (fun c36_509 => ?_)
    · rw [if_neg c36_509] at h
      refine lv_iconst (v := (0 : Int32)) hx hb dX3_isZeroAt_43 (by decide) ?_
      cases h
      exact sm_zret (by first | rfl | decide) hx hb hr hlocks hP hS dX3_isZeroAt_44
    · rw [if_pos c36_509] at h
      refine lv_iconst (v := (1 : Int32)) hx hb dX3_isZeroAt_39 (by decide) ?_
      refine lv_goto (tgt := 44) hx hb dX3_isZeroAt_40 (by decide) ?_
      cases h
      exact sm_zret (by first | rfl | decide) hx hb hr hlocks hP hS dX3_isZeroAt_44
  · rw [if_neg c8_508] at h
    refine lv_iload_n hx hb dX3_isZeroAt_11 rfl (lv_at hl 2 rfl) ?_
    refine lv_iload_n hx hb dX3_isZeroAt_12 rfl (lv_at hl 1 rfl) ?_
    refine lv_imul hx hb dX3_isZeroAt_13 ?_
    refine lv_aload_n hx hb dX3_isZeroAt_14 rfl (lv_at hl 0 rfl) ?_
    refine sm_get (ci := 3) (C := RX3) (T := TX3) (N := 7) (v := .ref (adr (a0 + 1))) hx hb hts hin3 hown hE hP ha0 rfl rfl 1 (by decide) (hts (.fieldLink RX3 9 "OrderMover$Least" "numbers" "[I") (by decide +kernel)) (fun _ h9 => h9) rfl dX3_isZeroAt_15 ?_
    refine lv_iload_n hx hb dX3_isZeroAt_18 rfl (lv_at hl 3 rfl) ?_
    obtain ⟨c19_510, h⟩ := sm_ck h
    refine sm_iald hx hb hE hP (t3_1 ha0) c19_510 dX3_isZeroAt_19 ?_
    refine lv_iadd hx hb dX3_isZeroAt_20 ?_
    refine lv_aload_n hx hb dX3_isZeroAt_21 rfl (lv_at hl 0 rfl) ?_
    refine sm_get (ci := 3) (C := RX3) (T := TX3) (N := 7) (v := .int (M a0 3)) hx hb hts hin3 hown hE hP ha0 rfl rfl 3 (by decide) (hts (.fieldLink RX3 27 "OrderMover$Least" "p" "I") (by decide +kernel)) (fun _ h9 => h9) rfl dX3_isZeroAt_22 ?_
    obtain ⟨v25_511, hc25_513, h⟩ := sm_bd h
    refine sm_ci (va_runSN (As := [.int ((x2_7_504 * x1) + (M (a0 + 1) (x3_7_505).toNatClampNeg)), .int (M a0 3)]) (rest := []) ⟨hx, hb, hml, hown, hts⟩ (k_X11_leftOver l D cA adr hJ ((x2_7_504 * x1) + (M (a0 + 1) (x3_7_505).toNatClampNeg)) (M a0 3)  M v25_511 hc25_513) ⟨va_cnB (host := "OrderMover") 2 hts gX3_isZeroAt_X11_leftOver_n46 rfl rfl rfl (hE.2 (RX3, 46, yX11_leftOver, "OrderMover") (by decide +kernel)) (hts (.initialized RX11) (by decide +kernel)) (by decide +kernel) ⟨Nat.le_of_ble_eq_true rfl, Nat.le_of_ble_eq_true rfl⟩, hts (.static yX11_leftOver) (by decide +kernel), trivial⟩ ⟨smPc_bl, smPc_in [.int ((x2_7_504 * x1) + (M (a0 + 1) (x3_7_505).toNatClampNeg)), .int (M a0 3)] hE hP⟩ rfl rfl hl.1 rfl (lv_room (Nat.le_of_ble_eq_true rfl)) dX3_isZeroAt_25 ⟨Nat.zero_le _, Nat.zero_le _⟩) hS (fun H locs hP hS => ?_)
    refine lv_istore_n (lv' := [(2, .int v25_511), (0, .ref (adr a0)), (1, .int x1), (3, .int x3_7_505)]) hx hb dX3_isZeroAt_28 rfl hl (by decide) rfl (fun ls hl => ?_)
    refine lv_iinc (v := (x3_7_505 + (-1 : Int32))) (lv' := [(3, .int (x3_7_505 + (-1 : Int32))), (2, .int v25_511), (0, .ref (adr a0)), (1, .int x1)]) hx hb dX3_isZeroAt_29 hl (k := 3) rfl (congrArg (fun z => x3_7_505 + z) (by decide)) (by decide) rfl (fun ls hl => ?_)
    refine lv_goto (tgt := 7) hx hb dX3_isZeroAt_32 (by decide) ?_
    exact ih7_507 (v25_511, (x3_7_505 + (-1 : Int32))) _ _ _ h ⟨hP, hS, lv_sub hl [2, 3, 1, 0] rfl⟩
set_option maxHeartbeats 4000000 in
set_option maxRecDepth 100000 in
theorem k_X2_findRootsAt (l : Launch) (D : va_G) (cA : Nat → ClassId) (adr : Nat → Nat) (hJ : smJ 1 adr) (a0 : Nat) (a1 : Nat) (x2 : Int32) (ha0 : smT 1 a0 2) (ha1 : smT 1 a1 7) (M : smM) (M1 : smM) (h : m_X2_findRootsAt a0 a1 x2 M = some M1) : Met l yX2_findRootsAt wsX2_findRootsAt ({ frames := 2, cells := 0, slots := 0, locals := 52 }) (smPc D cA 1 adr M [.ref (adr a0), .ref (adr a1), .int x2]) (smQv D cA 1 adr M1) 0 0 (smA 1 adr) := by
  refine Met.ofW (cc := cX2_findRootsAt) (maxL := 5) (ret := none) (by decide) rfl ?_
  intro p e s m args below meth c s₁ B hml hv
  obtain ⟨rfl, hE, hP⟩ := hv
  have hx := B.exec
  have hb := B.bytes
  have hr := B.returns
  have hts := atoms_spec (ws := wsX2_findRootsAt) B.pre
  have hown : s.vm.findClass RX2 = some m.cls := findClass_of_methodNamed B.named
  have hlocks := B.notSynchronized
  have hS : va_S (smA 1 adr) s.heap s.heap [] := va_S.rf
  have hP : smP D cA 1 adr M s.heap := hP
  have hl := lv_entry ([.ref (adr a0), .ref (adr a1), .int x2]) (n := 5) (Nat.le_of_ble_eq_true rfl)
  rw [lg_entry_eq]
  generalize (lg_sl ([.ref (adr a0), .ref (adr a1), .int x2]) ++ List.replicate (5 - (lg_sl ([.ref (adr a0), .ref (adr a1), .int x2])).length) Slot.unset).toArray = ls at hl ⊢
  have hl : lv_has ls 5 [(0, .ref (adr a0)), (1, .ref (adr a1)), (2, .int x2)] := hl
  unfold m_X2_findRootsAt at h
  have hin2 : ∀ w ∈ u_ws RX2 TX2 9, w ∈ wsX2_findRootsAt := by decide +kernel
  have hin7 : ∀ w ∈ u_ws RX7 TX7 7, w ∈ wsX2_findRootsAt := by decide +kernel
  refine lv_iconst (v := (0 : Int32)) hx hb dX2_findRootsAt_0 (by decide) ?_
  refine lv_istore_n (lv' := [(3, .int (0 : Int32)), (0, .ref (adr a0)), (1, .ref (adr a1)), (2, .int x2)]) hx hb dX2_findRootsAt_1 rfl hl (by decide) rfl (fun ls hl => ?_)
  refine sm_lp (b := fun rc q => m_X2_findRootsAt_b2 a0 a1 x2 rc q.1 q.2) (P := fun (q : Int32 × smM) H locs ls => smP D cA 1 adr q.2 H ∧ va_S (smA 1 adr) s.heap H locs ∧ lv_has ls 5 [(0, .ref (adr a0)), (1, .ref (adr a1)), (2, .int x2), (3, .int q.1)]) (pc := 2) ?_ _ _ _ _ _ h ⟨hP, hS, lv_sub hl [1, 2, 3, 0] rfl⟩
  intro rc2_516 ih2_517 q H locs ls h hI
  obtain ⟨x3_2_514, M2_515⟩ := q
  obtain ⟨hP, hS, hl⟩ := hI
  have hP : smP D cA 1 adr M2_515 H := hP
  have hl : lv_has ls 5 [(0, .ref (adr a0)), (1, .ref (adr a1)), (2, .int x2), (3, .int x3_2_514)] := hl
  have h : m_X2_findRootsAt_b2 a0 a1 x2 rc2_516 x3_2_514 M2_515 = some _ := h
  unfold m_X2_findRootsAt_b2 at h
  refine lv_iload_n hx hb dX2_findRootsAt_2 rfl (lv_at hl 3 rfl) ?_
  refine lv_aload_n hx hb dX2_findRootsAt_3 rfl (lv_at hl 1 rfl) ?_
  refine sm_get (ci := 7) (C := RX7) (T := TX7) (N := 7) (v := .int (M2_515 a1 0)) hx hb hts hin7 hown hE hP ha1 rfl rfl 0 (by decide) (hts (.fieldLink RX2 79 "OrderMover$Setting" "p" "I") (by decide +kernel)) (fun _ h9 => h9) rfl dX2_findRootsAt_4 ?_
  refine lv_icmp_ge (tgt := 100) hx hb dX2_findRootsAt_7 (by decide) (fun c7_518 => ?_) (fun c7_518 => ?_)
  · rw [if_pos c7_518] at h
    cases h
    exact sm_vret hx hb hr hlocks hP hS dX2_findRootsAt_100
  · rw [if_neg c7_518] at h
    refine lv_aload_n hx hb dX2_findRootsAt_10 rfl (lv_at hl 0 rfl) ?_
    refine sm_get (ci := 2) (C := RX2) (T := TX2) (N := 9) (v := .ref (adr (a0 + 40))) hx hb hts hin2 hown hE hP ha0 rfl rfl 1 (by decide) (hts (.fieldLink RX2 20 "OrderMover$Ideal" "leasts" "[LOrderMover$Least;") (by decide +kernel)) (fun _ h9 => h9) rfl dX2_findRootsAt_11 ?_
    refine lv_iconst (v := (1 : Int32)) hx hb dX2_findRootsAt_14 (by decide) ?_
    obtain ⟨c15_519, h⟩ := sm_ck h
    refine sm_aald25 hx hb hE hP (t2_1 ha0) c15_519 dX2_findRootsAt_15 ?_
    refine lv_iload_n hx hb dX2_findRootsAt_16 rfl (lv_at hl 3 rfl) ?_
    obtain ⟨v17_520, hc17_522, h⟩ := sm_bd h
    refine sm_ci (va_runV (As := [.int x3_2_514]) (rest := []) ⟨hx, hb, hml, hown, hts⟩ (k_X3_isZeroAt l D cA adr hJ ((a0 + 40) + 1 + 6 * ((1 : Int32)).toNatClampNeg) x3_2_514 (te25 (t2_1 ha0) c15_519) M2_515 v17_520 hc17_522) (cwV 1 hts gX2_findRootsAt_X3_isZeroAt rfl rfl rfl (by decide +kernel) ⟨Nat.le_of_ble_eq_true rfl, Nat.le_of_ble_eq_true rfl⟩) ⟨smPc_bl, smRv hE hP (te25 (t2_1 ha0) c15_519) rfl (ci := 3) (q := (RX3, TX3, 7)) rfl, smPc_in [.ref (adr ((a0 + 40) + 1 + 6 * ((1 : Int32)).toNatClampNeg)), .int x3_2_514] hE hP⟩ rfl rfl hl.1 rfl (lv_room (Nat.le_of_ble_eq_true rfl)) dX2_findRootsAt_17 ⟨Nat.zero_le _, Nat.zero_le _⟩) hS (fun H locs hP hS => ?_)
    refine sm_jn (x := M1) (T := fun (q : Int32) => m_X2_findRootsAt_j48 a0 a1 x2 x3_2_514 M2_515 rc2_516 q) (P := fun (q : Int32) H locs ls => smP D cA 1 adr M2_515 H ∧ va_S (smA 1 adr) s.heap H locs ∧ lv_has ls 5 [(0, .ref (adr a0)), (1, .ref (adr a1)), (2, .int x2), (3, .int x3_2_514)]) (st := fun (q : Int32) => [.int q]) (pc := 48) ?_ (fun J48_524 => ?_)
    · intro q H locs ls h hI
      obtain ⟨s0_48_523, hq⟩ : ∃ y, y = q := ⟨_, rfl⟩; subst hq
      obtain ⟨hP, hS, hl⟩ := hI
      have hP : smP D cA 1 adr M2_515 H := hP
      have hl : lv_has ls 5 [(0, .ref (adr a0)), (1, .ref (adr a1)), (2, .int x2), (3, .int x3_2_514)] := hl
      have h : m_X2_findRootsAt_j48 a0 a1 x2 x3_2_514 M2_515 rc2_516 s0_48_523 = some _ := h
      unfold m_X2_findRootsAt_j48 at h
      refine W.eq (g2 := F0 m 48 ls [.int s0_48_523]) rfl ?_
      refine lv_istore (lv' := [(4, .int s0_48_523), (0, .ref (adr a0)), (1, .ref (adr a1)), (2, .int x2), (3, .int x3_2_514)]) hx hb dX2_findRootsAt_48 hl (by decide) rfl (fun ls hl => ?_)
      refine lv_iload hx hb dX2_findRootsAt_50 (lv_at hl 0 rfl) ?_
      refine lv_if_eq (tgt := 94) hx hb dX2_findRootsAt_52 (by decide) (fun c52_525 => ?_) (fun c52_525 => ?_)
      · rw [if_pos c52_525] at h
        refine lv_iinc (v := (x3_2_514 + (1 : Int32))) (lv' := [(3, .int (x3_2_514 + (1 : Int32))), (4, .int s0_48_523), (0, .ref (adr a0)), (1, .ref (adr a1)), (2, .int x2)]) hx hb dX2_findRootsAt_94 hl (k := 4) rfl (congrArg (fun z => x3_2_514 + z) (by decide)) (by decide) rfl (fun ls hl => ?_)
        refine lv_goto (tgt := 2) hx hb dX2_findRootsAt_97 (by decide) ?_
        exact ih2_517 ((x3_2_514 + (1 : Int32)), M2_515) _ _ _ h ⟨hP, hS, lv_sub hl [2, 3, 4, 0] rfl⟩
      · rw [if_neg c52_525] at h
        refine lv_aload_n hx hb dX2_findRootsAt_55 rfl (lv_at hl 1 rfl) ?_
        refine sm_get (ci := 2) (C := RX2) (T := TX2) (N := 9) (v := .int (M2_515 a0 7)) hx hb hts hin2 hown hE hP ha0 rfl rfl 7 (by decide) (hts (.fieldLink RX2 41 "OrderMover$Ideal" "roots" "I") (by decide +kernel)) (fun _ h9 => h9) rfl dX2_findRootsAt_56 ?_
        refine lv_bipush (v := (9 : Int32)) hx hb dX2_findRootsAt_59 (by decide) ?_
        refine lv_icmp_ge (tgt := 94) hx hb dX2_findRootsAt_61 (by decide) (fun c61_526 => ?_) (fun c61_526 => ?_)
        · rw [if_pos c61_526] at h
          refine lv_iinc (v := (x3_2_514 + (1 : Int32))) (lv' := [(3, .int (x3_2_514 + (1 : Int32))), (4, .int s0_48_523), (0, .ref (adr a0)), (1, .ref (adr a1)), (2, .int x2)]) hx hb dX2_findRootsAt_94 hl (k := 4) rfl (congrArg (fun z => x3_2_514 + z) (by decide)) (by decide) rfl (fun ls hl => ?_)
          refine lv_goto (tgt := 2) hx hb dX2_findRootsAt_97 (by decide) ?_
          exact ih2_517 ((x3_2_514 + (1 : Int32)), M2_515) _ _ _ h ⟨hP, hS, lv_sub hl [2, 3, 4, 0] rfl⟩
        · rw [if_neg c61_526] at h
          refine lv_aload_n hx hb dX2_findRootsAt_64 rfl (lv_at hl 1 rfl) ?_
          refine sm_get (ci := 2) (C := RX2) (T := TX2) (N := 9) (v := .ref (adr (a0 + 53))) hx hb hts hin2 hown hE hP ha0 rfl rfl 2 (by decide) (hts (.fieldLink RX2 24 "OrderMover$Ideal" "rootXs" "[I") (by decide +kernel)) (fun _ h9 => h9) rfl dX2_findRootsAt_65 ?_
          refine lv_aload_n hx hb dX2_findRootsAt_68 rfl (lv_at hl 1 rfl) ?_
          refine sm_get (ci := 2) (C := RX2) (T := TX2) (N := 9) (v := .int (M2_515 a0 7)) hx hb hts hin2 hown hE hP ha0 rfl rfl 7 (by decide) (hts (.fieldLink RX2 41 "OrderMover$Ideal" "roots" "I") (by decide +kernel)) (fun _ h9 => h9) rfl dX2_findRootsAt_69 ?_
          refine lv_iload_n hx hb dX2_findRootsAt_72 rfl (lv_at hl 3 rfl) ?_
          obtain ⟨c73_527, h⟩ := sm_ck h
          refine sm_iast hx hb hE hJ hP hS (t2_2 ha0) c73_527 dX2_findRootsAt_73 (fun H locs hP hS => ?_)
          obtain ⟨M73_528, hM, h⟩ := sm_lt h
          rw [← hM] at hP; clear hM
          refine lv_aload_n hx hb dX2_findRootsAt_74 rfl (lv_at hl 1 rfl) ?_
          refine sm_get (ci := 2) (C := RX2) (T := TX2) (N := 9) (v := .ref (adr (a0 + 54))) hx hb hts hin2 hown hE hP ha0 rfl rfl 3 (by decide) (hts (.fieldLink RX2 28 "OrderMover$Ideal" "rootYs" "[I") (by decide +kernel)) (fun _ h9 => h9) rfl dX2_findRootsAt_75 ?_
          refine lv_aload_n hx hb dX2_findRootsAt_78 rfl (lv_at hl 1 rfl) ?_
          refine sm_get (ci := 2) (C := RX2) (T := TX2) (N := 9) (v := .int (M73_528 a0 7)) hx hb hts hin2 hown hE hP ha0 rfl rfl 7 (by decide) (hts (.fieldLink RX2 41 "OrderMover$Ideal" "roots" "I") (by decide +kernel)) (fun _ h9 => h9) rfl dX2_findRootsAt_79 ?_
          refine lv_iload_n hx hb dX2_findRootsAt_82 rfl (lv_at hl 4 rfl) ?_
          obtain ⟨c83_529, h⟩ := sm_ck h
          refine sm_iast hx hb hE hJ hP hS (t2_3 ha0) c83_529 dX2_findRootsAt_83 (fun H locs hP hS => ?_)
          obtain ⟨M83_530, hM, h⟩ := sm_lt h
          rw [← hM] at hP; clear hM
          refine lv_aload_n hx hb dX2_findRootsAt_84 rfl (lv_at hl 1 rfl) ?_
          refine lv_dup hx hb dX2_findRootsAt_85 rfl ?_
          refine sm_get (ci := 2) (C := RX2) (T := TX2) (N := 9) (v := .int (M83_530 a0 7)) hx hb hts hin2 hown hE hP ha0 rfl rfl 7 (by decide) (hts (.fieldLink RX2 41 "OrderMover$Ideal" "roots" "I") (by decide +kernel)) (fun _ h9 => h9) rfl dX2_findRootsAt_86 ?_
          refine lv_iconst (v := (1 : Int32)) hx hb dX2_findRootsAt_89 (by decide) ?_
          refine lv_iadd hx hb dX2_findRootsAt_90 ?_
          refine sm_put (ci := 2) (C := RX2) (T := TX2) (N := 9) (ty := .int) hx hb hts hin2 tyX2 tyX2_ok nmX2 hown hE hJ hP hS ha0 rfl rfl 7 (by decide) (hts (.fieldLink RX2 41 "OrderMover$Ideal" "roots" "I") (by decide +kernel)) (fun _ h9 => h9) rfl (by decide +kernel) rfl rfl (Nat.le_of_ble_eq_true rfl) rfl dX2_findRootsAt_91 (fun H locs hP hS => ?_)
          obtain ⟨M91_531, hM, h⟩ := sm_lt h
          rw [← hM] at hP; clear hM
          refine lv_iinc (v := (x3_2_514 + (1 : Int32))) (lv' := [(3, .int (x3_2_514 + (1 : Int32))), (4, .int s0_48_523), (0, .ref (adr a0)), (1, .ref (adr a1)), (2, .int x2)]) hx hb dX2_findRootsAt_94 hl (k := 4) rfl (congrArg (fun z => x3_2_514 + z) (by decide)) (by decide) rfl (fun ls hl => ?_)
          refine lv_goto (tgt := 2) hx hb dX2_findRootsAt_97 (by decide) ?_
          exact ih2_517 ((x3_2_514 + (1 : Int32)), M91_531) _ _ _ h ⟨hP, hS, lv_sub hl [2, 3, 4, 0] rfl⟩
    refine sm_jn (x := M1) (T := fun (q : Unit) => m_X2_findRootsAt_j47 a0 a1 x2 x3_2_514 M2_515 rc2_516) (P := fun (q : Unit) H locs ls => smP D cA 1 adr M2_515 H ∧ va_S (smA 1 adr) s.heap H locs ∧ lv_has ls 5 [(0, .ref (adr a0)), (1, .ref (adr a1)), (2, .int x2), (3, .int x3_2_514)]) (st := fun (q : Unit) => []) (pc := 47) ?_ (fun J47_532 => ?_)
    · intro q H locs ls h hI
      obtain ⟨hP, hS, hl⟩ := hI
      have hP : smP D cA 1 adr M2_515 H := hP
      have hl : lv_has ls 5 [(0, .ref (adr a0)), (1, .ref (adr a1)), (2, .int x2), (3, .int x3_2_514)] := hl
      have h : m_X2_findRootsAt_j47 a0 a1 x2 x3_2_514 M2_515 rc2_516 = some _ := h
      unfold m_X2_findRootsAt_j47 at h
      refine W.eq (g2 := F0 m 47 ls []) rfl ?_
      refine lv_iconst (v := (0 : Int32)) hx hb dX2_findRootsAt_47 (by decide) ?_
      exact J48_524 (0 : Int32) _ _ _ h ⟨hP, hS, lv_sub hl [0, 1, 2, 3] rfl⟩
    refine lv_if_eq (tgt := 47) hx hb dX2_findRootsAt_20 (by decide) (fun c20_533 => ?_) (fun c20_533 => ?_)
    · rw [if_pos c20_533] at h
      exact J47_532 () _ _ _ h ⟨hP, hS, lv_sub hl [0, 1, 2, 3] rfl⟩
    · rw [if_neg c20_533] at h
      refine lv_aload_n hx hb dX2_findRootsAt_23 rfl (lv_at hl 1 rfl) ?_
      refine lv_iconst (v := (0 : Int32)) hx hb dX2_findRootsAt_24 (by decide) ?_
      refine lv_iload_n hx hb dX2_findRootsAt_25 rfl (lv_at hl 2 rfl) ?_
      refine lv_iload_n hx hb dX2_findRootsAt_26 rfl (lv_at hl 3 rfl) ?_
      obtain ⟨v27_534, hc27_536, h⟩ := sm_bd h
      refine sm_ci (va_runV (As := [.int (0 : Int32), .int x2, .int x3_2_514]) (rest := []) ⟨hx, hb, hml, hown, hts⟩ (k_X7_isZeroAt l D cA adr hJ a1 (0 : Int32) x2 x3_2_514 ha1 M2_515 v27_534 hc27_536) (cwV 3 hts gX2_findRootsAt_X7_isZeroAt rfl rfl rfl (by decide +kernel) ⟨Nat.le_of_ble_eq_true rfl, Nat.le_of_ble_eq_true rfl⟩) ⟨smPc_bl, smRv hE hP ha1 rfl (ci := 7) (q := (RX7, TX7, 7)) rfl, smPc_in [.ref (adr a1), .int (0 : Int32), .int x2, .int x3_2_514] hE hP⟩ rfl rfl hl.1 rfl (lv_room (Nat.le_of_ble_eq_true rfl)) dX2_findRootsAt_27 ⟨Nat.zero_le _, Nat.zero_le _⟩) hS (fun H locs hP hS => ?_)
      refine lv_if_eq (tgt := 47) hx hb dX2_findRootsAt_30 (by decide) (fun c30_537 => ?_) (fun c30_537 => ?_)
      · rw [if_pos c30_537] at h
        exact J47_532 () _ _ _ h ⟨hP, hS, lv_sub hl [0, 1, 2, 3] rfl⟩
      · rw [if_neg c30_537] at h
        refine lv_aload_n hx hb dX2_findRootsAt_33 rfl (lv_at hl 1 rfl) ?_
        refine lv_iconst (v := (1 : Int32)) hx hb dX2_findRootsAt_34 (by decide) ?_
        refine lv_iload_n hx hb dX2_findRootsAt_35 rfl (lv_at hl 2 rfl) ?_
        refine lv_iload_n hx hb dX2_findRootsAt_36 rfl (lv_at hl 3 rfl) ?_
        obtain ⟨v37_538, hc37_540, h⟩ := sm_bd h
        refine sm_ci (va_runV (As := [.int (1 : Int32), .int x2, .int x3_2_514]) (rest := []) ⟨hx, hb, hml, hown, hts⟩ (k_X7_isZeroAt l D cA adr hJ a1 (1 : Int32) x2 x3_2_514 ha1 M2_515 v37_538 hc37_540) (cwV 3 hts gX2_findRootsAt_X7_isZeroAt rfl rfl rfl (by decide +kernel) ⟨Nat.le_of_ble_eq_true rfl, Nat.le_of_ble_eq_true rfl⟩) ⟨smPc_bl, smRv hE hP ha1 rfl (ci := 7) (q := (RX7, TX7, 7)) rfl, smPc_in [.ref (adr a1), .int (1 : Int32), .int x2, .int x3_2_514] hE hP⟩ rfl rfl hl.1 rfl (lv_room (Nat.le_of_ble_eq_true rfl)) dX2_findRootsAt_37 ⟨Nat.zero_le _, Nat.zero_le _⟩) hS (fun H locs hP hS => ?_)
        refine lv_if_eq (tgt := 47) hx hb dX2_findRootsAt_40 (by decide) (fun c40_541 => ?_) (fun c40_541 => ?_)
        · rw [if_pos c40_541] at h
          exact J47_532 () _ _ _ h ⟨hP, hS, lv_sub hl [0, 1, 2, 3] rfl⟩
        · rw [if_neg c40_541] at h
          refine lv_iconst (v := (1 : Int32)) hx hb dX2_findRootsAt_43 (by decide) ?_
          refine lv_goto (tgt := 48) hx hb dX2_findRootsAt_44 (by decide) ?_
          exact J48_524 (1 : Int32) _ _ _ h ⟨hP, hS, lv_sub hl [0, 1, 2, 3] rfl⟩
