set_option maxHeartbeats 4000000 in
set_option maxRecDepth 100000 in
theorem k_X5_moveToField (l : Launch) (D : va_G) (cA : Nat → ClassId) (adr : Nat → Nat) (hJ : smJ 1 adr) (a0 : Nat) (x1 : Int32) (ha0 : smT 1 a0 5) (M : smM) (M1 : smM) (h : m_X5_moveToField a0 x1 M = some M1) : Met l yX5_moveToField wsX5_moveToField ({ frames := 1, cells := 0, slots := 0, locals := 22 }) (smPc D cA 1 adr M [.ref (adr a0), .int x1]) (smQv D cA 1 adr M1) 0 0 (smA 1 adr) := by
  refine Met.ofW (cc := cX5_moveToField) (maxL := 3) (ret := none) (by decide) rfl ?_
  intro p e s m args below meth c s₁ B hml hv
  obtain ⟨rfl, hE, hP⟩ := hv
  have hx := B.exec
  have hb := B.bytes
  have hr := B.returns
  have hts := atoms_spec (ws := wsX5_moveToField) B.pre
  have hown : s.vm.findClass RX5 = some m.cls := findClass_of_methodNamed B.named
  have hlocks := B.notSynchronized
  have hS : va_S (smA 1 adr) s.heap s.heap [] := va_S.rf
  have hP : smP D cA 1 adr M s.heap := hP
  have hl := lv_entry ([.ref (adr a0), .int x1]) (n := 3) (Nat.le_of_ble_eq_true rfl)
  rw [lg_entry_eq]
  generalize (lg_sl ([.ref (adr a0), .int x1]) ++ List.replicate (3 - (lg_sl ([.ref (adr a0), .int x1])).length) Slot.unset).toArray = ls at hl ⊢
  have hl : lv_has ls 3 [(0, .ref (adr a0)), (1, .int x1)] := hl
  unfold m_X5_moveToField at h
  have hin5 : ∀ w ∈ u_ws RX5 TX5 4, w ∈ wsX5_moveToField := by decide +kernel
  refine lv_iconst (v := (0 : Int32)) hx hb dX5_moveToField_0 (by decide) ?_
  refine lv_istore_n (lv' := [(2, .int (0 : Int32)), (0, .ref (adr a0)), (1, .int x1)]) hx hb dX5_moveToField_1 rfl hl (by decide) rfl (fun ls hl => ?_)
  refine sm_lp (b := fun rc q => m_X5_moveToField_b2 a0 x1 rc q.1 q.2) (P := fun (q : Int32 × smM) H locs ls => smP D cA 1 adr q.2 H ∧ va_S (smA 1 adr) s.heap H locs ∧ lv_has ls 3 [(0, .ref (adr a0)), (1, .int x1), (2, .int q.1)]) (pc := 2) ?_ _ _ _ _ _ h ⟨hP, hS, lv_sub hl [1, 2, 0] rfl⟩
  intro rc2_985 ih2_986 q H locs ls h hI
  obtain ⟨x2_2_983, M2_984⟩ := q
  obtain ⟨hP, hS, hl⟩ := hI
  have hP : smP D cA 1 adr M2_984 H := hP
  have hl : lv_has ls 3 [(0, .ref (adr a0)), (1, .int x1), (2, .int x2_2_983)] := hl
  have h : m_X5_moveToField_b2 a0 x1 rc2_985 x2_2_983 M2_984 = some _ := h
  unfold m_X5_moveToField_b2 at h
  refine lv_iload_n hx hb dX5_moveToField_2 rfl (lv_at hl 2 rfl) ?_
  refine lv_aload_n hx hb dX5_moveToField_3 rfl (lv_at hl 0 rfl) ?_
  refine sm_get (ci := 5) (C := RX5) (T := TX5) (N := 4) (v := .int (M2_984 a0 0)) hx hb hts hin5 hown hE hP ha0 rfl rfl 0 (by decide) (hts (.fieldLink RX5 27 "OrderMover$Polynomial" "howMany" "I") (by decide +kernel)) (fun _ h9 => h9) rfl dX5_moveToField_4 ?_
  refine lv_icmp_ge (tgt := 32) hx hb dX5_moveToField_7 (by decide) (fun c7_987 => ?_) (fun c7_987 => ?_)
  · rw [if_pos c7_987] at h
    refine lv_aload_n hx hb dX5_moveToField_32 rfl (lv_at hl 0 rfl) ?_
    obtain ⟨M33_989, hc33_990, h⟩ := sm_bd h
    refine sm_cv (va_runV (As := []) (rest := []) ⟨hx, hb, hml, hown, hts⟩ (k_X5_takeZerosAway l D cA adr hJ a0 ha0 M2_984 M33_989 hc33_990) (cwV 0 hts gX5_moveToField_X5_takeZerosAway rfl rfl rfl (by decide +kernel) ⟨Nat.le_of_ble_eq_true rfl, Nat.le_of_ble_eq_true rfl⟩) ⟨smPc_bl, smRv hE hP ha0 rfl (ci := 5) (q := (RX5, TX5, 4)) rfl, smPc_in [.ref (adr a0)] hE hP⟩ rfl rfl hl.1 rfl (lv_room (Nat.le_of_ble_eq_true rfl)) dX5_moveToField_33 ⟨Nat.zero_le _, Nat.zero_le _⟩) hS (fun H locs hP hS => ?_)
    cases h
    exact sm_vret hx hb hr hlocks hP hS dX5_moveToField_36
  · rw [if_neg c7_987] at h
    refine lv_aload_n hx hb dX5_moveToField_10 rfl (lv_at hl 0 rfl) ?_
    refine sm_get (ci := 5) (C := RX5) (T := TX5) (N := 4) (v := .ref (adr (a0 + 1))) hx hb hts hin5 hown hE hP ha0 rfl rfl 1 (by decide) (hts (.fieldLink RX5 15 "OrderMover$Polynomial" "numbers" "[I") (by decide +kernel)) (fun _ h9 => h9) rfl dX5_moveToField_11 ?_
    refine lv_iload_n hx hb dX5_moveToField_14 rfl (lv_at hl 2 rfl) ?_
    refine lv_aload_n hx hb dX5_moveToField_15 rfl (lv_at hl 0 rfl) ?_
    refine sm_get (ci := 5) (C := RX5) (T := TX5) (N := 4) (v := .ref (adr (a0 + 1))) hx hb hts hin5 hown hE hP ha0 rfl rfl 1 (by decide) (hts (.fieldLink RX5 15 "OrderMover$Polynomial" "numbers" "[I") (by decide +kernel)) (fun _ h9 => h9) rfl dX5_moveToField_16 ?_
    refine lv_iload_n hx hb dX5_moveToField_19 rfl (lv_at hl 2 rfl) ?_
    obtain ⟨c20_991, h⟩ := sm_ck h
    refine sm_iald hx hb hE hP (t5_1 ha0) c20_991 dX5_moveToField_20 ?_
    refine lv_iload_n hx hb dX5_moveToField_21 rfl (lv_at hl 1 rfl) ?_
    obtain ⟨v22_992, hc22_994, h⟩ := sm_bd h
    refine sm_ci (va_runSN (As := [.int (M2_984 (a0 + 1) (x2_2_983).toNatClampNeg), .int x1]) (rest := [.int x2_2_983, .ref (adr (a0 + 1))]) ⟨hx, hb, hml, hown, hts⟩ (k_X11_leftOver l D cA adr hJ (M2_984 (a0 + 1) (x2_2_983).toNatClampNeg) x1  M2_984 v22_992 hc22_994) ⟨va_cnB (host := "OrderMover") 2 hts gX5_moveToField_X11_leftOver_n34 rfl rfl rfl (hE.2 (RX5, 34, yX11_leftOver, "OrderMover") (by decide +kernel)) (hts (.initialized RX11) (by decide +kernel)) (by decide +kernel) ⟨Nat.le_of_ble_eq_true rfl, Nat.le_of_ble_eq_true rfl⟩, hts (.static yX11_leftOver) (by decide +kernel), trivial⟩ ⟨smPc_bl, smPc_in [.int (M2_984 (a0 + 1) (x2_2_983).toNatClampNeg), .int x1] hE hP⟩ rfl rfl hl.1 rfl (lv_room (Nat.le_of_ble_eq_true rfl)) dX5_moveToField_22 ⟨Nat.zero_le _, Nat.zero_le _⟩) hS (fun H locs hP hS => ?_)
    obtain ⟨c25_995, h⟩ := sm_ck h
    refine sm_iast hx hb hE hJ hP hS (t5_1 ha0) c25_995 dX5_moveToField_25 (fun H locs hP hS => ?_)
    obtain ⟨M25_996, hM, h⟩ := sm_lt h
    rw [← hM] at hP; clear hM
    refine lv_iinc (v := (x2_2_983 + (1 : Int32))) (lv' := [(2, .int (x2_2_983 + (1 : Int32))), (0, .ref (adr a0)), (1, .int x1)]) hx hb dX5_moveToField_26 hl (k := 2) rfl (congrArg (fun z => x2_2_983 + z) (by decide)) (by decide) rfl (fun ls hl => ?_)
    refine lv_goto (tgt := 2) hx hb dX5_moveToField_29 (by decide) ?_
    exact ih2_986 ((x2_2_983 + (1 : Int32)), M25_996) _ _ _ h ⟨hP, hS, lv_sub hl [1, 2, 0] rfl⟩
set_option maxHeartbeats 4000000 in
set_option maxRecDepth 100000 in
theorem k_X5_rise (l : Launch) (D : va_G) (cA : Nat → ClassId) (adr : Nat → Nat) (hJ : smJ 1 adr) (a0 : Nat) (x1 : Int32) (x2 : Int32) (ha0 : smT 1 a0 5) (M : smM) (M1 : smM) (h : m_X5_rise a0 x1 x2 M = some M1) : Met l yX5_rise wsX5_rise ({ frames := 0, cells := 0, slots := 0, locals := 0 }) (smPc D cA 1 adr M [.ref (adr a0), .int x1, .int x2]) (smQv D cA 1 adr M1) 0 0 (smA 1 adr) := by
  refine Met.ofW (cc := cX5_rise) (maxL := 4) (ret := none) (by decide) rfl ?_
  intro p e s m args below meth c s₁ B hml hv
  obtain ⟨rfl, hE, hP⟩ := hv
  have hx := B.exec
  have hb := B.bytes
  have hr := B.returns
  have hts := atoms_spec (ws := wsX5_rise) B.pre
  have hown : s.vm.findClass RX5 = some m.cls := findClass_of_methodNamed B.named
  have hlocks := B.notSynchronized
  have hS : va_S (smA 1 adr) s.heap s.heap [] := va_S.rf
  have hP : smP D cA 1 adr M s.heap := hP
  have hl := lv_entry ([.ref (adr a0), .int x1, .int x2]) (n := 4) (Nat.le_of_ble_eq_true rfl)
  rw [lg_entry_eq]
  generalize (lg_sl ([.ref (adr a0), .int x1, .int x2]) ++ List.replicate (4 - (lg_sl ([.ref (adr a0), .int x1, .int x2])).length) Slot.unset).toArray = ls at hl ⊢
  have hl : lv_has ls 4 [(0, .ref (adr a0)), (1, .int x1), (2, .int x2)] := hl
  unfold m_X5_rise at h
  have hin5 : ∀ w ∈ u_ws RX5 TX5 4, w ∈ wsX5_rise := by decide +kernel
  refine lv_iconst (v := (0 : Int32)) hx hb dX5_rise_0 (by decide) ?_
  refine lv_istore_n (lv' := [(3, .int (0 : Int32)), (0, .ref (adr a0)), (1, .int x1), (2, .int x2)]) hx hb dX5_rise_1 rfl hl (by decide) rfl (fun ls hl => ?_)
  refine sm_lp (b := fun rc q => m_X5_rise_b2 a0 x1 x2 rc q.1 q.2) (P := fun (q : Int32 × smM) H locs ls => smP D cA 1 adr q.2 H ∧ va_S (smA 1 adr) s.heap H locs ∧ lv_has ls 4 [(0, .ref (adr a0)), (1, .int x1), (2, .int x2), (3, .int q.1)]) (pc := 2) ?_ _ _ _ _ _ h ⟨hP, hS, lv_sub hl [1, 2, 3, 0] rfl⟩
  intro rc2_999 ih2_1000 q H locs ls h hI
  obtain ⟨x3_2_997, M2_998⟩ := q
  obtain ⟨hP, hS, hl⟩ := hI
  have hP : smP D cA 1 adr M2_998 H := hP
  have hl : lv_has ls 4 [(0, .ref (adr a0)), (1, .int x1), (2, .int x2), (3, .int x3_2_997)] := hl
  have h : m_X5_rise_b2 a0 x1 x2 rc2_999 x3_2_997 M2_998 = some _ := h
  unfold m_X5_rise_b2 at h
  refine lv_iload_n hx hb dX5_rise_2 rfl (lv_at hl 3 rfl) ?_
  refine lv_aload_n hx hb dX5_rise_3 rfl (lv_at hl 0 rfl) ?_
  refine sm_get (ci := 5) (C := RX5) (T := TX5) (N := 4) (v := .int (M2_998 a0 0)) hx hb hts hin5 hown hE hP ha0 rfl rfl 0 (by decide) (hts (.fieldLink RX5 27 "OrderMover$Polynomial" "howMany" "I") (by decide +kernel)) (fun _ h9 => h9) rfl dX5_rise_4 ?_
  refine lv_icmp_ge (tgt := 36) hx hb dX5_rise_7 (by decide) (fun c7_1001 => ?_) (fun c7_1001 => ?_)
  · rw [if_pos c7_1001] at h
    cases h
    exact sm_vret hx hb hr hlocks hP hS dX5_rise_36
  · rw [if_neg c7_1001] at h
    refine lv_aload_n hx hb dX5_rise_10 rfl (lv_at hl 0 rfl) ?_
    refine sm_get (ci := 5) (C := RX5) (T := TX5) (N := 4) (v := .ref (adr (a0 + 2))) hx hb hts hin5 hown hE hP ha0 rfl rfl 2 (by decide) (hts (.fieldLink RX5 21 "OrderMover$Polynomial" "xs" "[I") (by decide +kernel)) (fun _ h9 => h9) rfl dX5_rise_11 ?_
    refine lv_iload_n hx hb dX5_rise_14 rfl (lv_at hl 3 rfl) ?_
    refine lv_dup2_11 hx hb dX5_rise_15 rfl rfl ?_
    obtain ⟨c16_1002, h⟩ := sm_ck h
    refine sm_iald hx hb hE hP (t5_2 ha0) c16_1002 dX5_rise_16 ?_
    refine lv_iload_n hx hb dX5_rise_17 rfl (lv_at hl 1 rfl) ?_
    refine lv_iadd hx hb dX5_rise_18 ?_
    obtain ⟨c19_1003, h⟩ := sm_ck h
    refine sm_iast hx hb hE hJ hP hS (t5_2 ha0) c19_1003 dX5_rise_19 (fun H locs hP hS => ?_)
    obtain ⟨M19_1004, hM, h⟩ := sm_lt h
    rw [← hM] at hP; clear hM
    refine lv_aload_n hx hb dX5_rise_20 rfl (lv_at hl 0 rfl) ?_
    refine sm_get (ci := 5) (C := RX5) (T := TX5) (N := 4) (v := .ref (adr (a0 + 3))) hx hb hts hin5 hown hE hP ha0 rfl rfl 3 (by decide) (hts (.fieldLink RX5 24 "OrderMover$Polynomial" "ys" "[I") (by decide +kernel)) (fun _ h9 => h9) rfl dX5_rise_21 ?_
    refine lv_iload_n hx hb dX5_rise_24 rfl (lv_at hl 3 rfl) ?_
    refine lv_dup2_11 hx hb dX5_rise_25 rfl rfl ?_
    obtain ⟨c26_1005, h⟩ := sm_ck h
    refine sm_iald hx hb hE hP (t5_3 ha0) c26_1005 dX5_rise_26 ?_
    refine lv_iload_n hx hb dX5_rise_27 rfl (lv_at hl 2 rfl) ?_
    refine lv_iadd hx hb dX5_rise_28 ?_
    obtain ⟨c29_1006, h⟩ := sm_ck h
    refine sm_iast hx hb hE hJ hP hS (t5_3 ha0) c29_1006 dX5_rise_29 (fun H locs hP hS => ?_)
    obtain ⟨M29_1007, hM, h⟩ := sm_lt h
    rw [← hM] at hP; clear hM
    refine lv_iinc (v := (x3_2_997 + (1 : Int32))) (lv' := [(3, .int (x3_2_997 + (1 : Int32))), (0, .ref (adr a0)), (1, .int x1), (2, .int x2)]) hx hb dX5_rise_30 hl (k := 3) rfl (congrArg (fun z => x3_2_997 + z) (by decide)) (by decide) rfl (fun ls hl => ?_)
    refine lv_goto (tgt := 2) hx hb dX5_rise_33 (by decide) ?_
    exact ih2_1000 ((x3_2_997 + (1 : Int32)), M29_1007) _ _ _ h ⟨hP, hS, lv_sub hl [1, 2, 3, 0] rfl⟩
set_option maxHeartbeats 4000000 in
set_option maxRecDepth 100000 in
theorem k_X7_begin (l : Launch) (D : va_G) (cA : Nat → ClassId) (adr : Nat → Nat) (hJ : smJ 1 adr) (a0 : Nat) (x1 : Int32) (x2 : Int32) (ha0 : smT 1 a0 7) (M : smM) (M1 : smM) (h : m_X7_begin a0 x1 x2 M = some M1) : Met l yX7_begin wsX7_begin ({ frames := 1, cells := 0, slots := 0, locals := 21 }) (smPc D cA 1 adr M [.ref (adr a0), .int x1, .int x2]) (smQv D cA 1 adr M1) 0 0 (smA 1 adr) := by
  refine Met.ofW (cc := cX7_begin) (maxL := 3) (ret := none) (by decide) rfl ?_
  intro p e s m args below meth c s₁ B hml hv
  obtain ⟨rfl, hE, hP⟩ := hv
  have hx := B.exec
  have hb := B.bytes
  have hr := B.returns
  have hts := atoms_spec (ws := wsX7_begin) B.pre
  have hown : s.vm.findClass RX7 = some m.cls := findClass_of_methodNamed B.named
  have hlocks := B.notSynchronized
  have hS : va_S (smA 1 adr) s.heap s.heap [] := va_S.rf
  have hP : smP D cA 1 adr M s.heap := hP
  have hl := lv_entry ([.ref (adr a0), .int x1, .int x2]) (n := 3) (Nat.le_of_ble_eq_true rfl)
  rw [lg_entry_eq]
  generalize (lg_sl ([.ref (adr a0), .int x1, .int x2]) ++ List.replicate (3 - (lg_sl ([.ref (adr a0), .int x1, .int x2])).length) Slot.unset).toArray = ls at hl ⊢
  have hl : lv_has ls 3 [(0, .ref (adr a0)), (1, .int x1), (2, .int x2)] := hl
  unfold m_X7_begin at h
  have hin7 : ∀ w ∈ u_ws RX7 TX7 7, w ∈ wsX7_begin := by decide +kernel
  refine lv_aload_n hx hb dX7_begin_0 rfl (lv_at hl 0 rfl) ?_
  refine lv_iload_n hx hb dX7_begin_1 rfl (lv_at hl 1 rfl) ?_
  refine sm_put (ci := 7) (C := RX7) (T := TX7) (N := 7) (ty := .int) hx hb hts hin7 tyX7 tyX7_ok nmX7 hown hE hJ hP hS ha0 rfl rfl 1 (by decide) (hts (.fieldLink RX7 15 "OrderMover$Setting" "a" "I") (by decide +kernel)) (fun _ h9 => h9) rfl (by decide +kernel) rfl rfl (Nat.le_of_ble_eq_true rfl) rfl dX7_begin_2 (fun H locs hP hS => ?_)
  obtain ⟨M2_1008, hM, h⟩ := sm_lt h
  rw [← hM] at hP; clear hM
  refine lv_aload_n hx hb dX7_begin_5 rfl (lv_at hl 0 rfl) ?_
  refine lv_iload_n hx hb dX7_begin_6 rfl (lv_at hl 2 rfl) ?_
  refine sm_put (ci := 7) (C := RX7) (T := TX7) (N := 7) (ty := .int) hx hb hts hin7 tyX7 tyX7_ok nmX7 hown hE hJ hP hS ha0 rfl rfl 2 (by decide) (hts (.fieldLink RX7 18 "OrderMover$Setting" "b" "I") (by decide +kernel)) (fun _ h9 => h9) rfl (by decide +kernel) rfl rfl (Nat.le_of_ble_eq_true rfl) rfl dX7_begin_7 (fun H locs hP hS => ?_)
  obtain ⟨M7_1009, hM, h⟩ := sm_lt h
  rw [← hM] at hP; clear hM
  refine lv_aload_n hx hb dX7_begin_10 rfl (lv_at hl 0 rfl) ?_
  refine sm_get (ci := 7) (C := RX7) (T := TX7) (N := 7) (v := .ref (adr (a0 + 1))) hx hb hts hin7 hown hE hP ha0 rfl rfl 5 (by decide) (hts (.fieldLink RX7 27 "OrderMover$Setting" "first" "[I") (by decide +kernel)) (fun _ h9 => h9) rfl dX7_begin_11 ?_
  obtain ⟨M14_1011, hc14_1012, h⟩ := sm_bd h
  refine sm_cv (va_runSN (As := [.ref (adr (a0 + 1))]) (rest := []) ⟨hx, hb, hml, hown, hts⟩ (k_X11_clear l D cA adr hJ (a0 + 1) (t7_5 ha0) M7_1009 M14_1011 hc14_1012) ⟨va_cnB (host := "OrderMover") 1 hts gX7_begin_X11_clear_n50 rfl rfl rfl (hE.2 (RX7, 50, yX11_clear, "OrderMover") (by decide +kernel)) (hts (.initialized RX11) (by decide +kernel)) (by decide +kernel) ⟨Nat.le_of_ble_eq_true rfl, Nat.le_of_ble_eq_true rfl⟩, hts (.static yX11_clear) (by decide +kernel), trivial⟩ ⟨smPc_bl, smPc_in [.ref (adr (a0 + 1))] hE hP⟩ rfl rfl hl.1 rfl (lv_room (Nat.le_of_ble_eq_true rfl)) dX7_begin_14 ⟨Nat.zero_le _, Nat.zero_le _⟩) hS (fun H locs hP hS => ?_)
  refine lv_aload_n hx hb dX7_begin_17 rfl (lv_at hl 0 rfl) ?_
  refine sm_get (ci := 7) (C := RX7) (T := TX7) (N := 7) (v := .ref (adr (a0 + 2))) hx hb hts hin7 hown hE hP ha0 rfl rfl 6 (by decide) (hts (.fieldLink RX7 31 "OrderMover$Setting" "second" "[I") (by decide +kernel)) (fun _ h9 => h9) rfl dX7_begin_18 ?_
  obtain ⟨M21_1014, hc21_1015, h⟩ := sm_bd h
  refine sm_cv (va_runSN (As := [.ref (adr (a0 + 2))]) (rest := []) ⟨hx, hb, hml, hown, hts⟩ (k_X11_clear l D cA adr hJ (a0 + 2) (t7_6 ha0) M14_1011 M21_1014 hc21_1015) ⟨va_cnB (host := "OrderMover") 1 hts gX7_begin_X11_clear_n50 rfl rfl rfl (hE.2 (RX7, 50, yX11_clear, "OrderMover") (by decide +kernel)) (hts (.initialized RX11) (by decide +kernel)) (by decide +kernel) ⟨Nat.le_of_ble_eq_true rfl, Nat.le_of_ble_eq_true rfl⟩, hts (.static yX11_clear) (by decide +kernel), trivial⟩ ⟨smPc_bl, smPc_in [.ref (adr (a0 + 2))] hE hP⟩ rfl rfl hl.1 rfl (lv_room (Nat.le_of_ble_eq_true rfl)) dX7_begin_21 ⟨Nat.zero_le _, Nat.zero_le _⟩) hS (fun H locs hP hS => ?_)
  cases h
  exact sm_vret hx hb hr hlocks hP hS dX7_begin_24
set_option maxHeartbeats 4000000 in
set_option maxRecDepth 100000 in
theorem k_X11_isUnknown (l : Launch) (D : va_G) (cA : Nat → ClassId) (adr : Nat → Nat) (hJ : smJ 1 adr) (x0 : Int32) (M : smM) (v1 : Int32) (h : m_X11_isUnknown x0 M = some v1) : Met l yX11_isUnknown wsX11_isUnknown ({ frames := 1, cells := 0, slots := 0, locals := 22 }) (smPc D cA 1 adr M [.int x0]) (smQi D cA 1 adr M v1) 0 0 (smA 1 adr) := by
  refine Met.ofW (cc := cX11_isUnknown) (maxL := 1) (ret := (some .boolean)) (by decide) rfl ?_
  intro p e s m args below meth c s₁ B hml hv
  obtain ⟨rfl, hE, hP⟩ := hv
  have hx := B.exec
  have hb := B.bytes
  have hr := B.returns
  have hts := atoms_spec (ws := wsX11_isUnknown) B.pre
  have hown : s.vm.findClass RX11 = some m.cls := findClass_of_methodNamed B.named
  have hlocks := B.notSynchronized
  have hS : va_S (smA 1 adr) s.heap s.heap [] := va_S.rf
  have hP : smP D cA 1 adr M s.heap := hP
  have hl := lv_entry ([.int x0]) (n := 1) (Nat.le_of_ble_eq_true rfl)
  rw [lg_entry_eq]
  generalize (lg_sl ([.int x0]) ++ List.replicate (1 - (lg_sl ([.int x0])).length) Slot.unset).toArray = ls at hl ⊢
  have hl : lv_has ls 1 [(0, .int x0)] := hl
  unfold m_X11_isUnknown at h
  refine lv_iload_n hx hb dX11_isUnknown_0 rfl (lv_at hl 0 rfl) ?_
  refine lv_iconst (v := (0 : Int32)) hx hb dX11_isUnknown_1 (by decide) ?_
  refine lv_iconst (v := (1 : Int32)) hx hb dX11_isUnknown_2 (by decide) ?_
  obtain ⟨v3_1016, hc3_1018, h⟩ := sm_bd h
  refine sm_ci (va_runS (As := [.int x0, .int (0 : Int32), .int (1 : Int32)]) (rest := []) ⟨hx, hb, hml, hown, hts⟩ (k_X11_isWithin l D cA adr hJ x0 (0 : Int32) (1 : Int32)  M v3_1016 hc3_1018) (va_cwS 3 hts gX11_isUnknown_X11_isWithin rfl rfl rfl (by decide +kernel) ⟨Nat.le_of_ble_eq_true rfl, Nat.le_of_ble_eq_true rfl⟩) ⟨smPc_bl, smPc_in [.int x0, .int (0 : Int32), .int (1 : Int32)] hE hP⟩ rfl rfl hl.1 rfl (lv_room (Nat.le_of_ble_eq_true rfl)) dX11_isUnknown_3 ⟨Nat.zero_le _, Nat.zero_le _⟩) hS (fun H locs hP hS => ?_)
  cases h
  exact sm_zret (by first | rfl | decide) hx hb hr hlocks hP hS dX11_isUnknown_6
set_option maxHeartbeats 4000000 in
set_option maxRecDepth 100000 in
theorem k_X7_hasCoefficient (l : Launch) (D : va_G) (cA : Nat → ClassId) (adr : Nat → Nat) (hJ : smJ 1 adr) (a0 : Nat) (x1 : Int32) (x2 : Int32) (x3 : Int32) (ha0 : smT 1 a0 7) (M : smM) (v1 : Int32) (h : m_X7_hasCoefficient a0 x1 x2 x3 M = some v1) : Met l yX7_hasCoefficient wsX7_hasCoefficient ({ frames := 2, cells := 0, slots := 0, locals := 42 }) (smPc D cA 1 adr M [.ref (adr a0), .int x1, .int x2, .int x3]) (smQi D cA 1 adr M v1) 0 0 (smA 1 adr) := by
  refine Met.ofW (cc := cX7_hasCoefficient) (maxL := 4) (ret := (some .boolean)) (by decide) rfl ?_
  intro p e s m args below meth c s₁ B hml hv
  obtain ⟨rfl, hE, hP⟩ := hv
  have hx := B.exec
  have hb := B.bytes
  have hr := B.returns
  have hts := atoms_spec (ws := wsX7_hasCoefficient) B.pre
  have hown : s.vm.findClass RX7 = some m.cls := findClass_of_methodNamed B.named
  have hlocks := B.notSynchronized
  have hS : va_S (smA 1 adr) s.heap s.heap [] := va_S.rf
  have hP : smP D cA 1 adr M s.heap := hP
  have hl := lv_entry ([.ref (adr a0), .int x1, .int x2, .int x3]) (n := 4) (Nat.le_of_ble_eq_true rfl)
  rw [lg_entry_eq]
  generalize (lg_sl ([.ref (adr a0), .int x1, .int x2, .int x3]) ++ List.replicate (4 - (lg_sl ([.ref (adr a0), .int x1, .int x2, .int x3])).length) Slot.unset).toArray = ls at hl ⊢
  have hl : lv_has ls 4 [(0, .ref (adr a0)), (1, .int x1), (2, .int x2), (3, .int x3)] := hl
  unfold m_X7_hasCoefficient at h
  refine lv_iload_n hx hb dX7_hasCoefficient_0 rfl (lv_at hl 1 rfl) ?_
  obtain ⟨v1_1019, hc1_1021, h⟩ := sm_bd h
  refine sm_ci (va_runSN (As := [.int x1]) (rest := []) ⟨hx, hb, hml, hown, hts⟩ (k_X11_isUnknown l D cA adr hJ x1  M v1_1019 hc1_1021) ⟨va_cnB (host := "OrderMover") 1 hts gX7_hasCoefficient_X11_isUnknown_n34 rfl rfl rfl (hE.2 (RX7, 34, yX11_isUnknown, "OrderMover") (by decide +kernel)) (hts (.initialized RX11) (by decide +kernel)) (by decide +kernel) ⟨Nat.le_of_ble_eq_true rfl, Nat.le_of_ble_eq_true rfl⟩, hts (.static yX11_isUnknown) (by decide +kernel), trivial⟩ ⟨smPc_bl, smPc_in [.int x1] hE hP⟩ rfl rfl hl.1 rfl (lv_room (Nat.le_of_ble_eq_true rfl)) dX7_hasCoefficient_1 ⟨Nat.zero_le _, Nat.zero_le _⟩) hS (fun H locs hP hS => ?_)
  refine lv_if_eq (tgt := 39) hx hb dX7_hasCoefficient_4 (by decide) (fun c4_1022 => ?_) (fun c4_1022 => ?_)
  · rw [if_pos c4_1022] at h
    refine lv_iconst (v := (0 : Int32)) hx hb dX7_hasCoefficient_39 (by decide) ?_
    cases h
    exact sm_zret (by first | rfl | decide) hx hb hr hlocks hP hS dX7_hasCoefficient_40
  · rw [if_neg c4_1022] at h
    refine lv_iload_n hx hb dX7_hasCoefficient_7 rfl (lv_at hl 2 rfl) ?_
    refine lv_if_lt (tgt := 39) hx hb dX7_hasCoefficient_8 (by decide) (fun c8_1023 => ?_) (fun c8_1023 => ?_)
    · rw [if_pos c8_1023] at h
      refine lv_iconst (v := (0 : Int32)) hx hb dX7_hasCoefficient_39 (by decide) ?_
      cases h
      exact sm_zret (by first | rfl | decide) hx hb hr hlocks hP hS dX7_hasCoefficient_40
    · rw [if_neg c8_1023] at h
      refine lv_iload_n hx hb dX7_hasCoefficient_11 rfl (lv_at hl 3 rfl) ?_
      refine lv_if_lt (tgt := 39) hx hb dX7_hasCoefficient_12 (by decide) (fun c12_1024 => ?_) (fun c12_1024 => ?_)
      · rw [if_pos c12_1024] at h
        refine lv_iconst (v := (0 : Int32)) hx hb dX7_hasCoefficient_39 (by decide) ?_
        cases h
        exact sm_zret (by first | rfl | decide) hx hb hr hlocks hP hS dX7_hasCoefficient_40
      · rw [if_neg c12_1024] at h
        refine lv_iload_n hx hb dX7_hasCoefficient_15 rfl (lv_at hl 2 rfl) ?_
        refine lv_aload_n hx hb dX7_hasCoefficient_16 rfl (lv_at hl 0 rfl) ?_
        refine lv_iload_n hx hb dX7_hasCoefficient_17 rfl (lv_at hl 1 rfl) ?_
        obtain ⟨v18_1025, hc18_1027, h⟩ := sm_bd h
        refine sm_ci (va_runV (As := [.int x1]) (rest := [.int x2]) ⟨hx, hb, hml, hown, hts⟩ (k_X7_power l D cA adr hJ a0 x1 ha0 M v18_1025 hc18_1027) (cwV 1 hts gX7_hasCoefficient_X7_power rfl rfl rfl (by decide +kernel) ⟨Nat.le_of_ble_eq_true rfl, Nat.le_of_ble_eq_true rfl⟩) ⟨smPc_bl, smRv hE hP ha0 rfl (ci := 7) (q := (RX7, TX7, 7)) rfl, smPc_in [.ref (adr a0), .int x1] hE hP⟩ rfl rfl hl.1 rfl (lv_room (Nat.le_of_ble_eq_true rfl)) dX7_hasCoefficient_18 ⟨Nat.zero_le _, Nat.zero_le _⟩) hS (fun H locs hP hS => ?_)
        refine lv_icmp_ge (tgt := 39) hx hb dX7_hasCoefficient_21 (by decide) (fun c21_1028 => ?_) (fun c21_1028 => ?_)
        · rw [if_pos c21_1028] at h
          refine lv_iconst (v := (0 : Int32)) hx hb dX7_hasCoefficient_39 (by decide) ?_
          cases h
          exact sm_zret (by first | rfl | decide) hx hb hr hlocks hP hS dX7_hasCoefficient_40
        · rw [if_neg c21_1028] at h
          refine lv_iload_n hx hb dX7_hasCoefficient_24 rfl (lv_at hl 3 rfl) ?_
          refine lv_aload_n hx hb dX7_hasCoefficient_25 rfl (lv_at hl 0 rfl) ?_
          refine lv_iload_n hx hb dX7_hasCoefficient_26 rfl (lv_at hl 1 rfl) ?_
          obtain ⟨v27_1029, hc27_1031, h⟩ := sm_bd h
          refine sm_ci (va_runV (As := [.int x1]) (rest := [.int x3]) ⟨hx, hb, hml, hown, hts⟩ (k_X7_power l D cA adr hJ a0 x1 ha0 M v27_1029 hc27_1031) (cwV 1 hts gX7_hasCoefficient_X7_power rfl rfl rfl (by decide +kernel) ⟨Nat.le_of_ble_eq_true rfl, Nat.le_of_ble_eq_true rfl⟩) ⟨smPc_bl, smRv hE hP ha0 rfl (ci := 7) (q := (RX7, TX7, 7)) rfl, smPc_in [.ref (adr a0), .int x1] hE hP⟩ rfl rfl hl.1 rfl (lv_room (Nat.le_of_ble_eq_true rfl)) dX7_hasCoefficient_27 ⟨Nat.zero_le _, Nat.zero_le _⟩) hS (fun H locs hP hS => ?_)
          refine lv_iload_n hx hb dX7_hasCoefficient_30 rfl (lv_at hl 2 rfl) ?_
          refine lv_isub hx hb dX7_hasCoefficient_31 ?_
          refine lv_icmp_ge (tgt := 39) hx hb dX7_hasCoefficient_32 (by decide) (fun c32_1032 => ?_) (fun c32_1032 => ?_)
          · rw [if_pos c32_1032] at h
            refine lv_iconst (v := (0 : Int32)) hx hb dX7_hasCoefficient_39 (by decide) ?_
            cases h
            exact sm_zret (by first | rfl | decide) hx hb hr hlocks hP hS dX7_hasCoefficient_40
          · rw [if_neg c32_1032] at h
            refine lv_iconst (v := (1 : Int32)) hx hb dX7_hasCoefficient_35 (by decide) ?_
            refine lv_goto (tgt := 40) hx hb dX7_hasCoefficient_36 (by decide) ?_
            cases h
            exact sm_zret (by first | rfl | decide) hx hb hr hlocks hP hS dX7_hasCoefficient_40
set_option maxHeartbeats 4000000 in
set_option maxRecDepth 100000 in
theorem k_X7_change (l : Launch) (D : va_G) (cA : Nat → ClassId) (adr : Nat → Nat) (hJ : smJ 1 adr) (a0 : Nat) (x1 : Int32) (x2 : Int32) (x3 : Int32) (x4 : Int32) (ha0 : smT 1 a0 7) (M : smM) (M1 : smM) (h : m_X7_change a0 x1 x2 x3 x4 M = some M1) : Met l yX7_change wsX7_change ({ frames := 3, cells := 0, slots := 0, locals := 65 }) (smPc D cA 1 adr M [.ref (adr a0), .int x1, .int x2, .int x3, .int x4]) (smQv D cA 1 adr M1) 0 0 (smA 1 adr) := by
  refine Met.ofW (cc := cX7_change) (maxL := 5) (ret := none) (by decide) rfl ?_
  intro p e s m args below meth c s₁ B hml hv
  obtain ⟨rfl, hE, hP⟩ := hv
  have hx := B.exec
  have hb := B.bytes
  have hr := B.returns
  have hts := atoms_spec (ws := wsX7_change) B.pre
  have hown : s.vm.findClass RX7 = some m.cls := findClass_of_methodNamed B.named
  have hlocks := B.notSynchronized
  have hS : va_S (smA 1 adr) s.heap s.heap [] := va_S.rf
  have hP : smP D cA 1 adr M s.heap := hP
  have hl := lv_entry ([.ref (adr a0), .int x1, .int x2, .int x3, .int x4]) (n := 5) (Nat.le_of_ble_eq_true rfl)
  rw [lg_entry_eq]
  generalize (lg_sl ([.ref (adr a0), .int x1, .int x2, .int x3, .int x4]) ++ List.replicate (5 - (lg_sl ([.ref (adr a0), .int x1, .int x2, .int x3, .int x4])).length) Slot.unset).toArray = ls at hl ⊢
  have hl : lv_has ls 5 [(0, .ref (adr a0)), (1, .int x1), (2, .int x2), (3, .int x3), (4, .int x4)] := hl
  unfold m_X7_change at h
  refine lv_aload_n hx hb dX7_change_0 rfl (lv_at hl 0 rfl) ?_
  refine lv_iload_n hx hb dX7_change_1 rfl (lv_at hl 1 rfl) ?_
  refine lv_iload_n hx hb dX7_change_2 rfl (lv_at hl 2 rfl) ?_
  refine lv_iload_n hx hb dX7_change_3 rfl (lv_at hl 3 rfl) ?_
  obtain ⟨v4_1033, hc4_1035, h⟩ := sm_bd h
  refine sm_ci (va_runV (As := [.int x1, .int x2, .int x3]) (rest := []) ⟨hx, hb, hml, hown, hts⟩ (k_X7_hasCoefficient l D cA adr hJ a0 x1 x2 x3 ha0 M v4_1033 hc4_1035) (cwV 3 hts gX7_change_X7_hasCoefficient rfl rfl rfl (by decide +kernel) ⟨Nat.le_of_ble_eq_true rfl, Nat.le_of_ble_eq_true rfl⟩) ⟨smPc_bl, smRv hE hP ha0 rfl (ci := 7) (q := (RX7, TX7, 7)) rfl, smPc_in [.ref (adr a0), .int x1, .int x2, .int x3] hE hP⟩ rfl rfl hl.1 rfl (lv_room (Nat.le_of_ble_eq_true rfl)) dX7_change_4 ⟨Nat.zero_le _, Nat.zero_le _⟩) hS (fun H locs hP hS => ?_)
  refine lv_if_eq (tgt := 23) hx hb dX7_change_7 (by decide) (fun c7_1036 => ?_) (fun c7_1036 => ?_)
  · rw [if_pos c7_1036] at h
    cases h
    exact sm_vret hx hb hr hlocks hP hS dX7_change_23
  · rw [if_neg c7_1036] at h
    refine lv_aload_n hx hb dX7_change_10 rfl (lv_at hl 0 rfl) ?_
    refine lv_iload_n hx hb dX7_change_11 rfl (lv_at hl 1 rfl) ?_
    obtain ⟨v12_1037, hc12_1039, h⟩ := sm_bd h
    refine sm_cr (va_runV (As := [.int x1]) (rest := []) ⟨hx, hb, hml, hown, hts⟩ (k_X7_coefficients l D cA adr hJ a0 x1 ha0 M v12_1037 hc12_1039) (cwV 1 hts gX7_change_X7_coefficients rfl rfl rfl (by decide +kernel) ⟨Nat.le_of_ble_eq_true rfl, Nat.le_of_ble_eq_true rfl⟩) ⟨smPc_bl, smRv hE hP ha0 rfl (ci := 7) (q := (RX7, TX7, 7)) rfl, smPc_in [.ref (adr a0), .int x1] hE hP⟩ rfl rfl hl.1 rfl (lv_room (Nat.le_of_ble_eq_true rfl)) dX7_change_12 ⟨Nat.zero_le _, Nat.zero_le _⟩) hS (fun H locs hk12_1040 hP hS => ?_)
    refine lv_iconst (v := (3 : Int32)) hx hb dX7_change_15 (by decide) ?_
    refine lv_iload_n hx hb dX7_change_16 rfl (lv_at hl 3 rfl) ?_
    refine lv_imul hx hb dX7_change_17 ?_
    refine lv_iload_n hx hb dX7_change_18 rfl (lv_at hl 2 rfl) ?_
    refine lv_iadd hx hb dX7_change_19 ?_
    refine lv_iload hx hb dX7_change_20 (lv_at hl 4 rfl) ?_
    obtain ⟨c22_1041, h⟩ := sm_ck h
    refine sm_iast hx hb hE hJ hP hS hk12_1040 c22_1041 dX7_change_22 (fun H locs hP hS => ?_)
    obtain ⟨M22_1042, hM, h⟩ := sm_lt h
    rw [← hM] at hP; clear hM
    cases h
    exact sm_vret hx hb hr hlocks hP hS dX7_change_23
set_option maxHeartbeats 4000000 in
set_option maxRecDepth 100000 in
theorem k_X7_coefficient (l : Launch) (D : va_G) (cA : Nat → ClassId) (adr : Nat → Nat) (hJ : smJ 1 adr) (a0 : Nat) (x1 : Int32) (x2 : Int32) (x3 : Int32) (ha0 : smT 1 a0 7) (M : smM) (v1 : Int32) (h : m_X7_coefficient a0 x1 x2 x3 M = some v1) : Met l yX7_coefficient wsX7_coefficient ({ frames := 3, cells := 0, slots := 0, locals := 65 }) (smPc D cA 1 adr M [.ref (adr a0), .int x1, .int x2, .int x3]) (smQi D cA 1 adr M v1) 0 0 (smA 1 adr) := by
  refine Met.ofW (cc := cX7_coefficient) (maxL := 4) (ret := (some .int)) (by decide) rfl ?_
  intro p e s m args below meth c s₁ B hml hv
  obtain ⟨rfl, hE, hP⟩ := hv
  have hx := B.exec
  have hb := B.bytes
  have hr := B.returns
  have hts := atoms_spec (ws := wsX7_coefficient) B.pre
  have hown : s.vm.findClass RX7 = some m.cls := findClass_of_methodNamed B.named
  have hlocks := B.notSynchronized
  have hS : va_S (smA 1 adr) s.heap s.heap [] := va_S.rf
  have hP : smP D cA 1 adr M s.heap := hP
  have hl := lv_entry ([.ref (adr a0), .int x1, .int x2, .int x3]) (n := 4) (Nat.le_of_ble_eq_true rfl)
  rw [lg_entry_eq]
  generalize (lg_sl ([.ref (adr a0), .int x1, .int x2, .int x3]) ++ List.replicate (4 - (lg_sl ([.ref (adr a0), .int x1, .int x2, .int x3])).length) Slot.unset).toArray = ls at hl ⊢
  have hl : lv_has ls 4 [(0, .ref (adr a0)), (1, .int x1), (2, .int x2), (3, .int x3)] := hl
  unfold m_X7_coefficient at h
  refine lv_aload_n hx hb dX7_coefficient_0 rfl (lv_at hl 0 rfl) ?_
  refine lv_iload_n hx hb dX7_coefficient_1 rfl (lv_at hl 1 rfl) ?_
  refine lv_iload_n hx hb dX7_coefficient_2 rfl (lv_at hl 2 rfl) ?_
  refine lv_iload_n hx hb dX7_coefficient_3 rfl (lv_at hl 3 rfl) ?_
  obtain ⟨v4_1043, hc4_1045, h⟩ := sm_bd h
  refine sm_ci (va_runV (As := [.int x1, .int x2, .int x3]) (rest := []) ⟨hx, hb, hml, hown, hts⟩ (k_X7_hasCoefficient l D cA adr hJ a0 x1 x2 x3 ha0 M v4_1043 hc4_1045) (cwV 3 hts gX7_coefficient_X7_hasCoefficient rfl rfl rfl (by decide +kernel) ⟨Nat.le_of_ble_eq_true rfl, Nat.le_of_ble_eq_true rfl⟩) ⟨smPc_bl, smRv hE hP ha0 rfl (ci := 7) (q := (RX7, TX7, 7)) rfl, smPc_in [.ref (adr a0), .int x1, .int x2, .int x3] hE hP⟩ rfl rfl hl.1 rfl (lv_room (Nat.le_of_ble_eq_true rfl)) dX7_coefficient_4 ⟨Nat.zero_le _, Nat.zero_le _⟩) hS (fun H locs hP hS => ?_)
  refine lv_if_eq (tgt := 24) hx hb dX7_coefficient_7 (by decide) (fun c7_1046 => ?_) (fun c7_1046 => ?_)
  · rw [if_pos c7_1046] at h
    refine lv_iconst (v := (0 : Int32)) hx hb dX7_coefficient_24 (by decide) ?_
    cases h
    exact sm_iret hx hb hr hlocks hP hS dX7_coefficient_25
  · rw [if_neg c7_1046] at h
    refine lv_aload_n hx hb dX7_coefficient_10 rfl (lv_at hl 0 rfl) ?_
    refine lv_iload_n hx hb dX7_coefficient_11 rfl (lv_at hl 1 rfl) ?_
    obtain ⟨v12_1047, hc12_1049, h⟩ := sm_bd h
    refine sm_cr (va_runV (As := [.int x1]) (rest := []) ⟨hx, hb, hml, hown, hts⟩ (k_X7_coefficients l D cA adr hJ a0 x1 ha0 M v12_1047 hc12_1049) (cwV 1 hts gX7_coefficient_X7_coefficients rfl rfl rfl (by decide +kernel) ⟨Nat.le_of_ble_eq_true rfl, Nat.le_of_ble_eq_true rfl⟩) ⟨smPc_bl, smRv hE hP ha0 rfl (ci := 7) (q := (RX7, TX7, 7)) rfl, smPc_in [.ref (adr a0), .int x1] hE hP⟩ rfl rfl hl.1 rfl (lv_room (Nat.le_of_ble_eq_true rfl)) dX7_coefficient_12 ⟨Nat.zero_le _, Nat.zero_le _⟩) hS (fun H locs hk12_1050 hP hS => ?_)
    refine lv_iconst (v := (3 : Int32)) hx hb dX7_coefficient_15 (by decide) ?_
    refine lv_iload_n hx hb dX7_coefficient_16 rfl (lv_at hl 3 rfl) ?_
    refine lv_imul hx hb dX7_coefficient_17 ?_
    refine lv_iload_n hx hb dX7_coefficient_18 rfl (lv_at hl 2 rfl) ?_
    refine lv_iadd hx hb dX7_coefficient_19 ?_
    obtain ⟨c20_1051, h⟩ := sm_ck h
    refine sm_iald hx hb hE hP hk12_1050 c20_1051 dX7_coefficient_20 ?_
    refine lv_goto (tgt := 25) hx hb dX7_coefficient_21 (by decide) ?_
    cases h
    exact sm_iret hx hb hr hlocks hP hS dX7_coefficient_25
set_option maxHeartbeats 4000000 in
set_option maxRecDepth 100000 in
theorem k_X7_copyFrom (l : Launch) (D : va_G) (cA : Nat → ClassId) (adr : Nat → Nat) (hJ : smJ 1 adr) (a0 : Nat) (a1 : Nat) (ha0 : smT 1 a0 7) (ha1 : smT 1 a1 7) (M : smM) (M1 : smM) (h : m_X7_copyFrom a0 a1 M = some M1) : Met l yX7_copyFrom wsX7_copyFrom ({ frames := 0, cells := 0, slots := 0, locals := 0 }) (smPc D cA 1 adr M [.ref (adr a0), .ref (adr a1)]) (smQv D cA 1 adr M1) 0 0 (smA 1 adr) := by
  refine Met.ofW (cc := cX7_copyFrom) (maxL := 3) (ret := none) (by decide) rfl ?_
  intro p e s m args below meth c s₁ B hml hv
  obtain ⟨rfl, hE, hP⟩ := hv
  have hx := B.exec
  have hb := B.bytes
  have hr := B.returns
  have hts := atoms_spec (ws := wsX7_copyFrom) B.pre
  have hown : s.vm.findClass RX7 = some m.cls := findClass_of_methodNamed B.named
  have hlocks := B.notSynchronized
  have hS : va_S (smA 1 adr) s.heap s.heap [] := va_S.rf
  have hP : smP D cA 1 adr M s.heap := hP
  have hl := lv_entry ([.ref (adr a0), .ref (adr a1)]) (n := 3) (Nat.le_of_ble_eq_true rfl)
  rw [lg_entry_eq]
  generalize (lg_sl ([.ref (adr a0), .ref (adr a1)]) ++ List.replicate (3 - (lg_sl ([.ref (adr a0), .ref (adr a1)])).length) Slot.unset).toArray = ls at hl ⊢
  have hl : lv_has ls 3 [(0, .ref (adr a0)), (1, .ref (adr a1))] := hl
  unfold m_X7_copyFrom at h
  have hin7 : ∀ w ∈ u_ws RX7 TX7 7, w ∈ wsX7_copyFrom := by decide +kernel
  refine lv_aload_n hx hb dX7_copyFrom_0 rfl (lv_at hl 0 rfl) ?_
  refine lv_aload_n hx hb dX7_copyFrom_1 rfl (lv_at hl 1 rfl) ?_
  refine sm_get (ci := 7) (C := RX7) (T := TX7) (N := 7) (v := .int (M a1 0)) hx hb hts hin7 hown hE hP ha1 rfl rfl 0 (by decide) (hts (.fieldLink RX7 9 "OrderMover$Setting" "p" "I") (by decide +kernel)) (fun _ h9 => h9) rfl dX7_copyFrom_2 ?_
  refine sm_put (ci := 7) (C := RX7) (T := TX7) (N := 7) (ty := .int) hx hb hts hin7 tyX7 tyX7_ok nmX7 hown hE hJ hP hS ha0 rfl rfl 0 (by decide) (hts (.fieldLink RX7 9 "OrderMover$Setting" "p" "I") (by decide +kernel)) (fun _ h9 => h9) rfl (by decide +kernel) rfl rfl (Nat.le_of_ble_eq_true rfl) rfl dX7_copyFrom_5 (fun H locs hP hS => ?_)
  obtain ⟨M5_1052, hM, h⟩ := sm_lt h
  rw [← hM] at hP; clear hM
  refine lv_aload_n hx hb dX7_copyFrom_8 rfl (lv_at hl 0 rfl) ?_
  refine lv_aload_n hx hb dX7_copyFrom_9 rfl (lv_at hl 1 rfl) ?_
  refine sm_get (ci := 7) (C := RX7) (T := TX7) (N := 7) (v := .int (M5_1052 a1 1)) hx hb hts hin7 hown hE hP ha1 rfl rfl 1 (by decide) (hts (.fieldLink RX7 15 "OrderMover$Setting" "a" "I") (by decide +kernel)) (fun _ h9 => h9) rfl dX7_copyFrom_10 ?_
  refine sm_put (ci := 7) (C := RX7) (T := TX7) (N := 7) (ty := .int) hx hb hts hin7 tyX7 tyX7_ok nmX7 hown hE hJ hP hS ha0 rfl rfl 1 (by decide) (hts (.fieldLink RX7 15 "OrderMover$Setting" "a" "I") (by decide +kernel)) (fun _ h9 => h9) rfl (by decide +kernel) rfl rfl (Nat.le_of_ble_eq_true rfl) rfl dX7_copyFrom_13 (fun H locs hP hS => ?_)
  obtain ⟨M13_1053, hM, h⟩ := sm_lt h
  rw [← hM] at hP; clear hM
  refine lv_aload_n hx hb dX7_copyFrom_16 rfl (lv_at hl 0 rfl) ?_
  refine lv_aload_n hx hb dX7_copyFrom_17 rfl (lv_at hl 1 rfl) ?_
  refine sm_get (ci := 7) (C := RX7) (T := TX7) (N := 7) (v := .int (M13_1053 a1 2)) hx hb hts hin7 hown hE hP ha1 rfl rfl 2 (by decide) (hts (.fieldLink RX7 18 "OrderMover$Setting" "b" "I") (by decide +kernel)) (fun _ h9 => h9) rfl dX7_copyFrom_18 ?_
  refine sm_put (ci := 7) (C := RX7) (T := TX7) (N := 7) (ty := .int) hx hb hts hin7 tyX7 tyX7_ok nmX7 hown hE hJ hP hS ha0 rfl rfl 2 (by decide) (hts (.fieldLink RX7 18 "OrderMover$Setting" "b" "I") (by decide +kernel)) (fun _ h9 => h9) rfl (by decide +kernel) rfl rfl (Nat.le_of_ble_eq_true rfl) rfl dX7_copyFrom_21 (fun H locs hP hS => ?_)
  obtain ⟨M21_1054, hM, h⟩ := sm_lt h
  rw [← hM] at hP; clear hM
  refine lv_aload_n hx hb dX7_copyFrom_24 rfl (lv_at hl 0 rfl) ?_
  refine lv_aload_n hx hb dX7_copyFrom_25 rfl (lv_at hl 1 rfl) ?_
  refine sm_get (ci := 7) (C := RX7) (T := TX7) (N := 7) (v := .int (M21_1054 a1 3)) hx hb hts hin7 hown hE hP ha1 rfl rfl 3 (by decide) (hts (.fieldLink RX7 21 "OrderMover$Setting" "u" "I") (by decide +kernel)) (fun _ h9 => h9) rfl dX7_copyFrom_26 ?_
  refine sm_put (ci := 7) (C := RX7) (T := TX7) (N := 7) (ty := .int) hx hb hts hin7 tyX7 tyX7_ok nmX7 hown hE hJ hP hS ha0 rfl rfl 3 (by decide) (hts (.fieldLink RX7 21 "OrderMover$Setting" "u" "I") (by decide +kernel)) (fun _ h9 => h9) rfl (by decide +kernel) rfl rfl (Nat.le_of_ble_eq_true rfl) rfl dX7_copyFrom_29 (fun H locs hP hS => ?_)
  obtain ⟨M29_1055, hM, h⟩ := sm_lt h
  rw [← hM] at hP; clear hM
  refine lv_aload_n hx hb dX7_copyFrom_32 rfl (lv_at hl 0 rfl) ?_
  refine lv_aload_n hx hb dX7_copyFrom_33 rfl (lv_at hl 1 rfl) ?_
  refine sm_get (ci := 7) (C := RX7) (T := TX7) (N := 7) (v := .int (M29_1055 a1 4)) hx hb hts hin7 hown hE hP ha1 rfl rfl 4 (by decide) (hts (.fieldLink RX7 24 "OrderMover$Setting" "v" "I") (by decide +kernel)) (fun _ h9 => h9) rfl dX7_copyFrom_34 ?_
  refine sm_put (ci := 7) (C := RX7) (T := TX7) (N := 7) (ty := .int) hx hb hts hin7 tyX7 tyX7_ok nmX7 hown hE hJ hP hS ha0 rfl rfl 4 (by decide) (hts (.fieldLink RX7 24 "OrderMover$Setting" "v" "I") (by decide +kernel)) (fun _ h9 => h9) rfl (by decide +kernel) rfl rfl (Nat.le_of_ble_eq_true rfl) rfl dX7_copyFrom_37 (fun H locs hP hS => ?_)
  obtain ⟨M37_1056, hM, h⟩ := sm_lt h
  rw [← hM] at hP; clear hM
  refine lv_iconst (v := (0 : Int32)) hx hb dX7_copyFrom_40 (by decide) ?_
  refine lv_istore_n (lv' := [(2, .int (0 : Int32)), (0, .ref (adr a0)), (1, .ref (adr a1))]) hx hb dX7_copyFrom_41 rfl hl (by decide) rfl (fun ls hl => ?_)
  refine sm_lp (b := fun rc q => m_X7_copyFrom_b42 a0 a1 rc q.1 q.2) (P := fun (q : Int32 × smM) H locs ls => smP D cA 1 adr q.2 H ∧ va_S (smA 1 adr) s.heap H locs ∧ lv_has ls 3 [(0, .ref (adr a0)), (1, .ref (adr a1)), (2, .int q.1)]) (pc := 42) ?_ _ _ _ _ _ h ⟨hP, hS, lv_sub hl [1, 2, 0] rfl⟩
  intro rc42_1059 ih42_1060 q H locs ls h hI
  obtain ⟨x2_42_1057, M42_1058⟩ := q
  obtain ⟨hP, hS, hl⟩ := hI
  have hP : smP D cA 1 adr M42_1058 H := hP
  have hl : lv_has ls 3 [(0, .ref (adr a0)), (1, .ref (adr a1)), (2, .int x2_42_1057)] := hl
  have h : m_X7_copyFrom_b42 a0 a1 rc42_1059 x2_42_1057 M42_1058 = some _ := h
  unfold m_X7_copyFrom_b42 at h
  refine lv_iload_n hx hb dX7_copyFrom_42 rfl (lv_at hl 2 rfl) ?_
  refine lv_bipush (v := (9 : Int32)) hx hb dX7_copyFrom_43 (by decide) ?_
  refine lv_icmp_ge (tgt := 78) hx hb dX7_copyFrom_45 (by decide) (fun c45_1061 => ?_) (fun c45_1061 => ?_)
  · rw [if_pos c45_1061] at h
    cases h
    exact sm_vret hx hb hr hlocks hP hS dX7_copyFrom_78
  · rw [if_neg c45_1061] at h
    refine lv_aload_n hx hb dX7_copyFrom_48 rfl (lv_at hl 0 rfl) ?_
    refine sm_get (ci := 7) (C := RX7) (T := TX7) (N := 7) (v := .ref (adr (a0 + 1))) hx hb hts hin7 hown hE hP ha0 rfl rfl 5 (by decide) (hts (.fieldLink RX7 27 "OrderMover$Setting" "first" "[I") (by decide +kernel)) (fun _ h9 => h9) rfl dX7_copyFrom_49 ?_
    refine lv_iload_n hx hb dX7_copyFrom_52 rfl (lv_at hl 2 rfl) ?_
    refine lv_aload_n hx hb dX7_copyFrom_53 rfl (lv_at hl 1 rfl) ?_
    refine sm_get (ci := 7) (C := RX7) (T := TX7) (N := 7) (v := .ref (adr (a1 + 1))) hx hb hts hin7 hown hE hP ha1 rfl rfl 5 (by decide) (hts (.fieldLink RX7 27 "OrderMover$Setting" "first" "[I") (by decide +kernel)) (fun _ h9 => h9) rfl dX7_copyFrom_54 ?_
    refine lv_iload_n hx hb dX7_copyFrom_57 rfl (lv_at hl 2 rfl) ?_
    obtain ⟨c58_1062, h⟩ := sm_ck h
    refine sm_iald hx hb hE hP (t7_5 ha1) c58_1062 dX7_copyFrom_58 ?_
    obtain ⟨c59_1063, h⟩ := sm_ck h
    refine sm_iast hx hb hE hJ hP hS (t7_5 ha0) c59_1063 dX7_copyFrom_59 (fun H locs hP hS => ?_)
    obtain ⟨M59_1064, hM, h⟩ := sm_lt h
    rw [← hM] at hP; clear hM
    refine lv_aload_n hx hb dX7_copyFrom_60 rfl (lv_at hl 0 rfl) ?_
    refine sm_get (ci := 7) (C := RX7) (T := TX7) (N := 7) (v := .ref (adr (a0 + 2))) hx hb hts hin7 hown hE hP ha0 rfl rfl 6 (by decide) (hts (.fieldLink RX7 31 "OrderMover$Setting" "second" "[I") (by decide +kernel)) (fun _ h9 => h9) rfl dX7_copyFrom_61 ?_
    refine lv_iload_n hx hb dX7_copyFrom_64 rfl (lv_at hl 2 rfl) ?_
    refine lv_aload_n hx hb dX7_copyFrom_65 rfl (lv_at hl 1 rfl) ?_
    refine sm_get (ci := 7) (C := RX7) (T := TX7) (N := 7) (v := .ref (adr (a1 + 2))) hx hb hts hin7 hown hE hP ha1 rfl rfl 6 (by decide) (hts (.fieldLink RX7 31 "OrderMover$Setting" "second" "[I") (by decide +kernel)) (fun _ h9 => h9) rfl dX7_copyFrom_66 ?_
    refine lv_iload_n hx hb dX7_copyFrom_69 rfl (lv_at hl 2 rfl) ?_
    obtain ⟨c70_1065, h⟩ := sm_ck h
    refine sm_iald hx hb hE hP (t7_6 ha1) c70_1065 dX7_copyFrom_70 ?_
    obtain ⟨c71_1066, h⟩ := sm_ck h
    refine sm_iast hx hb hE hJ hP hS (t7_6 ha0) c71_1066 dX7_copyFrom_71 (fun H locs hP hS => ?_)
    obtain ⟨M71_1067, hM, h⟩ := sm_lt h
    rw [← hM] at hP; clear hM
    refine lv_iinc (v := (x2_42_1057 + (1 : Int32))) (lv' := [(2, .int (x2_42_1057 + (1 : Int32))), (0, .ref (adr a0)), (1, .ref (adr a1))]) hx hb dX7_copyFrom_72 hl (k := 2) rfl (congrArg (fun z => x2_42_1057 + z) (by decide)) (by decide) rfl (fun ls hl => ?_)
    refine lv_goto (tgt := 42) hx hb dX7_copyFrom_75 (by decide) ?_
    exact ih42_1060 ((x2_42_1057 + (1 : Int32)), M71_1067) _ _ _ h ⟨hP, hS, lv_sub hl [1, 2, 0] rfl⟩
set_option maxHeartbeats 4000000 in
set_option maxRecDepth 100000 in
theorem k_X7_dimension (l : Launch) (D : va_G) (cA : Nat → ClassId) (adr : Nat → Nat) (hJ : smJ 1 adr) (a0 : Nat) (ha0 : smT 1 a0 7) (M : smM) (v1 : Int32) (h : m_X7_dimension a0 M = some v1) : Met l yX7_dimension wsX7_dimension ({ frames := 0, cells := 0, slots := 0, locals := 0 }) (smPc D cA 1 adr M [.ref (adr a0)]) (smQi D cA 1 adr M v1) 0 0 (smA 1 adr) := by
  refine Met.ofW (cc := cX7_dimension) (maxL := 1) (ret := (some .int)) (by decide) rfl ?_
  intro p e s m args below meth c s₁ B hml hv
  obtain ⟨rfl, hE, hP⟩ := hv
  have hx := B.exec
  have hb := B.bytes
  have hr := B.returns
  have hts := atoms_spec (ws := wsX7_dimension) B.pre
  have hown : s.vm.findClass RX7 = some m.cls := findClass_of_methodNamed B.named
  have hlocks := B.notSynchronized
  have hS : va_S (smA 1 adr) s.heap s.heap [] := va_S.rf
  have hP : smP D cA 1 adr M s.heap := hP
  have hl := lv_entry ([.ref (adr a0)]) (n := 1) (Nat.le_of_ble_eq_true rfl)
  rw [lg_entry_eq]
  generalize (lg_sl ([.ref (adr a0)]) ++ List.replicate (1 - (lg_sl ([.ref (adr a0)])).length) Slot.unset).toArray = ls at hl ⊢
  have hl : lv_has ls 1 [(0, .ref (adr a0))] := hl
  unfold m_X7_dimension at h
  have hin7 : ∀ w ∈ u_ws RX7 TX7 7, w ∈ wsX7_dimension := by decide +kernel
  refine lv_aload_n hx hb dX7_dimension_0 rfl (lv_at hl 0 rfl) ?_
  refine sm_get (ci := 7) (C := RX7) (T := TX7) (N := 7) (v := .int (M a0 1)) hx hb hts hin7 hown hE hP ha0 rfl rfl 1 (by decide) (hts (.fieldLink RX7 15 "OrderMover$Setting" "a" "I") (by decide +kernel)) (fun _ h9 => h9) rfl dX7_dimension_1 ?_
  refine lv_aload_n hx hb dX7_dimension_4 rfl (lv_at hl 0 rfl) ?_
  refine sm_get (ci := 7) (C := RX7) (T := TX7) (N := 7) (v := .int (M a0 2)) hx hb hts hin7 hown hE hP ha0 rfl rfl 2 (by decide) (hts (.fieldLink RX7 18 "OrderMover$Setting" "b" "I") (by decide +kernel)) (fun _ h9 => h9) rfl dX7_dimension_5 ?_
  refine lv_imul hx hb dX7_dimension_8 ?_
  cases h
  exact sm_iret hx hb hr hlocks hP hS dX7_dimension_9
set_option maxHeartbeats 4000000 in
set_option maxRecDepth 100000 in
theorem k_X7_moveToField (l : Launch) (D : va_G) (cA : Nat → ClassId) (adr : Nat → Nat) (hJ : smJ 1 adr) (a0 : Nat) (x1 : Int32) (ha0 : smT 1 a0 7) (M : smM) (M1 : smM) (h : m_X7_moveToField a0 x1 M = some M1) : Met l yX7_moveToField wsX7_moveToField ({ frames := 1, cells := 0, slots := 0, locals := 22 }) (smPc D cA 1 adr M [.ref (adr a0), .int x1]) (smQv D cA 1 adr M1) 0 0 (smA 1 adr) := by
  refine Met.ofW (cc := cX7_moveToField) (maxL := 3) (ret := none) (by decide) rfl ?_
  intro p e s m args below meth c s₁ B hml hv
  obtain ⟨rfl, hE, hP⟩ := hv
  have hx := B.exec
  have hb := B.bytes
  have hr := B.returns
  have hts := atoms_spec (ws := wsX7_moveToField) B.pre
  have hown : s.vm.findClass RX7 = some m.cls := findClass_of_methodNamed B.named
  have hlocks := B.notSynchronized
  have hS : va_S (smA 1 adr) s.heap s.heap [] := va_S.rf
  have hP : smP D cA 1 adr M s.heap := hP
  have hl := lv_entry ([.ref (adr a0), .int x1]) (n := 3) (Nat.le_of_ble_eq_true rfl)
  rw [lg_entry_eq]
  generalize (lg_sl ([.ref (adr a0), .int x1]) ++ List.replicate (3 - (lg_sl ([.ref (adr a0), .int x1])).length) Slot.unset).toArray = ls at hl ⊢
  have hl : lv_has ls 3 [(0, .ref (adr a0)), (1, .int x1)] := hl
  unfold m_X7_moveToField at h
  have hin7 : ∀ w ∈ u_ws RX7 TX7 7, w ∈ wsX7_moveToField := by decide +kernel
  refine lv_aload_n hx hb dX7_moveToField_0 rfl (lv_at hl 0 rfl) ?_
  refine lv_iload_n hx hb dX7_moveToField_1 rfl (lv_at hl 1 rfl) ?_
  refine sm_put (ci := 7) (C := RX7) (T := TX7) (N := 7) (ty := .int) hx hb hts hin7 tyX7 tyX7_ok nmX7 hown hE hJ hP hS ha0 rfl rfl 0 (by decide) (hts (.fieldLink RX7 9 "OrderMover$Setting" "p" "I") (by decide +kernel)) (fun _ h9 => h9) rfl (by decide +kernel) rfl rfl (Nat.le_of_ble_eq_true rfl) rfl dX7_moveToField_2 (fun H locs hP hS => ?_)
  obtain ⟨M2_1068, hM, h⟩ := sm_lt h
  rw [← hM] at hP; clear hM
  refine lv_iconst (v := (0 : Int32)) hx hb dX7_moveToField_5 (by decide) ?_
  refine lv_istore_n (lv' := [(2, .int (0 : Int32)), (0, .ref (adr a0)), (1, .int x1)]) hx hb dX7_moveToField_6 rfl hl (by decide) rfl (fun ls hl => ?_)
  refine sm_lp (b := fun rc q => m_X7_moveToField_b7 a0 rc q.1 q.2) (P := fun (q : Int32 × smM) H locs ls => smP D cA 1 adr q.2 H ∧ va_S (smA 1 adr) s.heap H locs ∧ lv_has ls 3 [(0, .ref (adr a0)), (2, .int q.1)]) (pc := 7) ?_ _ _ _ _ _ h ⟨hP, hS, lv_sub hl [1, 0] rfl⟩
  intro rc7_1071 ih7_1072 q H locs ls h hI
  obtain ⟨x2_7_1069, M7_1070⟩ := q
  obtain ⟨hP, hS, hl⟩ := hI
  have hP : smP D cA 1 adr M7_1070 H := hP
  have hl : lv_has ls 3 [(0, .ref (adr a0)), (2, .int x2_7_1069)] := hl
  have h : m_X7_moveToField_b7 a0 rc7_1071 x2_7_1069 M7_1070 = some _ := h
  unfold m_X7_moveToField_b7 at h
  refine lv_iload_n hx hb dX7_moveToField_7 rfl (lv_at hl 1 rfl) ?_
  refine lv_bipush (v := (9 : Int32)) hx hb dX7_moveToField_8 (by decide) ?_
  refine lv_icmp_ge (tgt := 57) hx hb dX7_moveToField_10 (by decide) (fun c10_1073 => ?_) (fun c10_1073 => ?_)
  · rw [if_pos c10_1073] at h
    cases h
    exact sm_vret hx hb hr hlocks hP hS dX7_moveToField_57
  · rw [if_neg c10_1073] at h
    refine lv_aload_n hx hb dX7_moveToField_13 rfl (lv_at hl 0 rfl) ?_
    refine sm_get (ci := 7) (C := RX7) (T := TX7) (N := 7) (v := .ref (adr (a0 + 1))) hx hb hts hin7 hown hE hP ha0 rfl rfl 5 (by decide) (hts (.fieldLink RX7 27 "OrderMover$Setting" "first" "[I") (by decide +kernel)) (fun _ h9 => h9) rfl dX7_moveToField_14 ?_
    refine lv_iload_n hx hb dX7_moveToField_17 rfl (lv_at hl 1 rfl) ?_
    refine lv_aload_n hx hb dX7_moveToField_18 rfl (lv_at hl 0 rfl) ?_
    refine sm_get (ci := 7) (C := RX7) (T := TX7) (N := 7) (v := .ref (adr (a0 + 1))) hx hb hts hin7 hown hE hP ha0 rfl rfl 5 (by decide) (hts (.fieldLink RX7 27 "OrderMover$Setting" "first" "[I") (by decide +kernel)) (fun _ h9 => h9) rfl dX7_moveToField_19 ?_
    refine lv_iload_n hx hb dX7_moveToField_22 rfl (lv_at hl 1 rfl) ?_
    obtain ⟨c23_1074, h⟩ := sm_ck h
    refine sm_iald hx hb hE hP (t7_5 ha0) c23_1074 dX7_moveToField_23 ?_
    refine lv_aload_n hx hb dX7_moveToField_24 rfl (lv_at hl 0 rfl) ?_
    refine sm_get (ci := 7) (C := RX7) (T := TX7) (N := 7) (v := .int (M7_1070 a0 0)) hx hb hts hin7 hown hE hP ha0 rfl rfl 0 (by decide) (hts (.fieldLink RX7 9 "OrderMover$Setting" "p" "I") (by decide +kernel)) (fun _ h9 => h9) rfl dX7_moveToField_25 ?_
    obtain ⟨v28_1075, hc28_1077, h⟩ := sm_bd h
    refine sm_ci (va_runSN (As := [.int (M7_1070 (a0 + 1) (x2_7_1069).toNatClampNeg), .int (M7_1070 a0 0)]) (rest := [.int x2_7_1069, .ref (adr (a0 + 1))]) ⟨hx, hb, hml, hown, hts⟩ (k_X11_leftOver l D cA adr hJ (M7_1070 (a0 + 1) (x2_7_1069).toNatClampNeg) (M7_1070 a0 0)  M7_1070 v28_1075 hc28_1077) ⟨va_cnB (host := "OrderMover") 2 hts gX7_moveToField_X11_leftOver_n54 rfl rfl rfl (hE.2 (RX7, 54, yX11_leftOver, "OrderMover") (by decide +kernel)) (hts (.initialized RX11) (by decide +kernel)) (by decide +kernel) ⟨Nat.le_of_ble_eq_true rfl, Nat.le_of_ble_eq_true rfl⟩, hts (.static yX11_leftOver) (by decide +kernel), trivial⟩ ⟨smPc_bl, smPc_in [.int (M7_1070 (a0 + 1) (x2_7_1069).toNatClampNeg), .int (M7_1070 a0 0)] hE hP⟩ rfl rfl hl.1 rfl (lv_room (Nat.le_of_ble_eq_true rfl)) dX7_moveToField_28 ⟨Nat.zero_le _, Nat.zero_le _⟩) hS (fun H locs hP hS => ?_)
    obtain ⟨c31_1078, h⟩ := sm_ck h
    refine sm_iast hx hb hE hJ hP hS (t7_5 ha0) c31_1078 dX7_moveToField_31 (fun H locs hP hS => ?_)
    obtain ⟨M31_1079, hM, h⟩ := sm_lt h
    rw [← hM] at hP; clear hM
    refine lv_aload_n hx hb dX7_moveToField_32 rfl (lv_at hl 0 rfl) ?_
    refine sm_get (ci := 7) (C := RX7) (T := TX7) (N := 7) (v := .ref (adr (a0 + 2))) hx hb hts hin7 hown hE hP ha0 rfl rfl 6 (by decide) (hts (.fieldLink RX7 31 "OrderMover$Setting" "second" "[I") (by decide +kernel)) (fun _ h9 => h9) rfl dX7_moveToField_33 ?_
    refine lv_iload_n hx hb dX7_moveToField_36 rfl (lv_at hl 1 rfl) ?_
    refine lv_aload_n hx hb dX7_moveToField_37 rfl (lv_at hl 0 rfl) ?_
    refine sm_get (ci := 7) (C := RX7) (T := TX7) (N := 7) (v := .ref (adr (a0 + 2))) hx hb hts hin7 hown hE hP ha0 rfl rfl 6 (by decide) (hts (.fieldLink RX7 31 "OrderMover$Setting" "second" "[I") (by decide +kernel)) (fun _ h9 => h9) rfl dX7_moveToField_38 ?_
    refine lv_iload_n hx hb dX7_moveToField_41 rfl (lv_at hl 1 rfl) ?_
    obtain ⟨c42_1080, h⟩ := sm_ck h
    refine sm_iald hx hb hE hP (t7_6 ha0) c42_1080 dX7_moveToField_42 ?_
    refine lv_aload_n hx hb dX7_moveToField_43 rfl (lv_at hl 0 rfl) ?_
    refine sm_get (ci := 7) (C := RX7) (T := TX7) (N := 7) (v := .int (M31_1079 a0 0)) hx hb hts hin7 hown hE hP ha0 rfl rfl 0 (by decide) (hts (.fieldLink RX7 9 "OrderMover$Setting" "p" "I") (by decide +kernel)) (fun _ h9 => h9) rfl dX7_moveToField_44 ?_
    obtain ⟨v47_1081, hc47_1083, h⟩ := sm_bd h
    refine sm_ci (va_runSN (As := [.int (M31_1079 (a0 + 2) (x2_7_1069).toNatClampNeg), .int (M31_1079 a0 0)]) (rest := [.int x2_7_1069, .ref (adr (a0 + 2))]) ⟨hx, hb, hml, hown, hts⟩ (k_X11_leftOver l D cA adr hJ (M31_1079 (a0 + 2) (x2_7_1069).toNatClampNeg) (M31_1079 a0 0)  M31_1079 v47_1081 hc47_1083) ⟨va_cnB (host := "OrderMover") 2 hts gX7_moveToField_X11_leftOver_n54 rfl rfl rfl (hE.2 (RX7, 54, yX11_leftOver, "OrderMover") (by decide +kernel)) (hts (.initialized RX11) (by decide +kernel)) (by decide +kernel) ⟨Nat.le_of_ble_eq_true rfl, Nat.le_of_ble_eq_true rfl⟩, hts (.static yX11_leftOver) (by decide +kernel), trivial⟩ ⟨smPc_bl, smPc_in [.int (M31_1079 (a0 + 2) (x2_7_1069).toNatClampNeg), .int (M31_1079 a0 0)] hE hP⟩ rfl rfl hl.1 rfl (lv_room (Nat.le_of_ble_eq_true rfl)) dX7_moveToField_47 ⟨Nat.zero_le _, Nat.zero_le _⟩) hS (fun H locs hP hS => ?_)
    obtain ⟨c50_1084, h⟩ := sm_ck h
    refine sm_iast hx hb hE hJ hP hS (t7_6 ha0) c50_1084 dX7_moveToField_50 (fun H locs hP hS => ?_)
    obtain ⟨M50_1085, hM, h⟩ := sm_lt h
    rw [← hM] at hP; clear hM
    refine lv_iinc (v := (x2_7_1069 + (1 : Int32))) (lv' := [(2, .int (x2_7_1069 + (1 : Int32))), (0, .ref (adr a0))]) hx hb dX7_moveToField_51 hl (k := 1) rfl (congrArg (fun z => x2_7_1069 + z) (by decide)) (by decide) rfl (fun ls hl => ?_)
    refine lv_goto (tgt := 7) hx hb dX7_moveToField_54 (by decide) ?_
    exact ih7_1072 ((x2_7_1069 + (1 : Int32)), M50_1085) _ _ _ h ⟨hP, hS, lv_sub hl [1, 0] rfl⟩
set_option maxHeartbeats 4000000 in
set_option maxRecDepth 100000 in
theorem k_X7_scatter (l : Launch) (D : va_G) (cA : Nat → ClassId) (adr : Nat → Nat) (hJ : smJ 1 adr) (a0 : Nat) (x1 : Int32) (x2 : Int32) (ha0 : smT 1 a0 7) (M : smM) (v1 : Int32) (M1 : smM) (h : m_X7_scatter a0 x1 x2 M = some (v1, M1)) : Met l yX7_scatter wsX7_scatter ({ frames := 4, cells := 0, slots := 0, locals := 89 }) (smPc D cA 1 adr M [.ref (adr a0), .int x1, .int x2]) (smQi D cA 1 adr M1 v1) 0 0 (smA 1 adr) := by
  refine Met.ofW (cc := cX7_scatter) (maxL := 7) (ret := (some .int)) (by decide) rfl ?_
  intro p e s m args below meth c s₁ B hml hv
  obtain ⟨rfl, hE, hP⟩ := hv
  have hx := B.exec
  have hb := B.bytes
  have hr := B.returns
  have hts := atoms_spec (ws := wsX7_scatter) B.pre
  have hown : s.vm.findClass RX7 = some m.cls := findClass_of_methodNamed B.named
  have hlocks := B.notSynchronized
  have hS : va_S (smA 1 adr) s.heap s.heap [] := va_S.rf
  have hP : smP D cA 1 adr M s.heap := hP
  have hl := lv_entry ([.ref (adr a0), .int x1, .int x2]) (n := 7) (Nat.le_of_ble_eq_true rfl)
  rw [lg_entry_eq]
  generalize (lg_sl ([.ref (adr a0), .int x1, .int x2]) ++ List.replicate (7 - (lg_sl ([.ref (adr a0), .int x1, .int x2])).length) Slot.unset).toArray = ls at hl ⊢
  have hl : lv_has ls 7 [(0, .ref (adr a0)), (1, .int x1), (2, .int x2)] := hl
  unfold m_X7_scatter at h
  have hin7 : ∀ w ∈ u_ws RX7 TX7 7, w ∈ wsX7_scatter := by decide +kernel
  refine lv_iload_n hx hb dX7_scatter_0 rfl (lv_at hl 1 rfl) ?_
  refine lv_i2l hx hb dX7_scatter_1 rfl ?_
  refine lv_lstore_n (lv' := [(3, .long ((x1).toInt64)), (0, .ref (adr a0)), (1, .int x1), (2, .int x2)]) hx hb dX7_scatter_2 rfl hl (by decide) rfl (fun ls hl => ?_)
  refine lv_iconst (v := (0 : Int32)) hx hb dX7_scatter_3 (by decide) ?_
  refine lv_istore (lv' := [(5, .int (0 : Int32)), (3, .long ((x1).toInt64)), (0, .ref (adr a0)), (1, .int x1), (2, .int x2)]) hx hb dX7_scatter_4 hl (by decide) rfl (fun ls hl => ?_)
  refine sm_lp (b := fun rc q => m_X7_scatter_b6 a0 x2 rc q.1 q.2.1 q.2.2) (P := fun (q : Int64 × Int32 × smM) H locs ls => smP D cA 1 adr q.2.2 H ∧ va_S (smA 1 adr) s.heap H locs ∧ lv_has ls 7 [(0, .ref (adr a0)), (2, .int x2), (3, .long q.1), (5, .int q.2.1)]) (pc := 6) ?_ _ _ _ _ _ h ⟨hP, hS, lv_sub hl [2, 4, 1, 0] rfl⟩
  intro rc6_1089 ih6_1090 q H locs ls h hI
  obtain ⟨z3_6_1086, x5_6_1087, M6_1088⟩ := q
  obtain ⟨hP, hS, hl⟩ := hI
  have hP : smP D cA 1 adr M6_1088 H := hP
  have hl : lv_has ls 7 [(0, .ref (adr a0)), (2, .int x2), (3, .long z3_6_1086), (5, .int x5_6_1087)] := hl
  have h : m_X7_scatter_b6 a0 x2 rc6_1089 z3_6_1086 x5_6_1087 M6_1088 = some _ := h
  unfold m_X7_scatter_b6 at h
  refine lv_iload hx hb dX7_scatter_6 (lv_at hl 3 rfl) ?_
  refine lv_aload_n hx hb dX7_scatter_8 rfl (lv_at hl 0 rfl) ?_
  refine lv_iload_n hx hb dX7_scatter_9 rfl (lv_at hl 1 rfl) ?_
  obtain ⟨v10_1091, hc10_1093, h⟩ := sm_bd h
  refine sm_ci (va_runV (As := [.int x2]) (rest := [.int x5_6_1087]) ⟨hx, hb, hml, hown, hts⟩ (k_X7_power l D cA adr hJ a0 x2 ha0 M6_1088 v10_1091 hc10_1093) (cwV 1 hts gX7_scatter_X7_power rfl rfl rfl (by decide +kernel) ⟨Nat.le_of_ble_eq_true rfl, Nat.le_of_ble_eq_true rfl⟩) ⟨smPc_bl, smRv hE hP ha0 rfl (ci := 7) (q := (RX7, TX7, 7)) rfl, smPc_in [.ref (adr a0), .int x2] hE hP⟩ rfl rfl hl.1 rfl (lv_room (Nat.le_of_ble_eq_true rfl)) dX7_scatter_10 ⟨Nat.zero_le _, Nat.zero_le _⟩) hS (fun H locs hP hS => ?_)
  refine lv_icmp_ge (tgt := 72) hx hb dX7_scatter_13 (by decide) (fun c13_1094 => ?_) (fun c13_1094 => ?_)
  · rw [if_pos c13_1094] at h
    refine lv_lload_n hx hb dX7_scatter_72 rfl (lv_at hl 2 rfl) ?_
    refine lv_l2i hx hb dX7_scatter_73 rfl ?_
    cases h
    exact sm_iret hx hb hr hlocks hP hS dX7_scatter_74
  · rw [if_neg c13_1094] at h
    refine lv_iconst (v := (0 : Int32)) hx hb dX7_scatter_16 (by decide) ?_
    refine lv_istore (lv' := [(6, .int (0 : Int32)), (0, .ref (adr a0)), (2, .int x2), (3, .long z3_6_1086), (5, .int x5_6_1087)]) hx hb dX7_scatter_17 hl (by decide) rfl (fun ls hl => ?_)
    refine sm_lp (b := fun rc q => m_X7_scatter_b19 a0 x2 x5_6_1087 rc6_1089 rc q.1 q.2.1 q.2.2) (P := fun (q : Int64 × Int32 × smM) H locs ls => smP D cA 1 adr q.2.2 H ∧ va_S (smA 1 adr) s.heap H locs ∧ lv_has ls 7 [(0, .ref (adr a0)), (2, .int x2), (3, .long q.1), (5, .int x5_6_1087), (6, .int q.2.1)]) (pc := 19) ?_ _ _ _ _ _ h ⟨hP, hS, lv_sub hl [1, 2, 3, 4, 0] rfl⟩
    intro rc19_1098 ih19_1099 q H locs ls h hI
    obtain ⟨z3_19_1095, x6_19_1096, M19_1097⟩ := q
    obtain ⟨hP, hS, hl⟩ := hI
    have hP : smP D cA 1 adr M19_1097 H := hP
    have hl : lv_has ls 7 [(0, .ref (adr a0)), (2, .int x2), (3, .long z3_19_1095), (5, .int x5_6_1087), (6, .int x6_19_1096)] := hl
    have h : m_X7_scatter_b19 a0 x2 x5_6_1087 rc6_1089 rc19_1098 z3_19_1095 x6_19_1096 M19_1097 = some _ := h
    unfold m_X7_scatter_b19 at h
    refine lv_iload hx hb dX7_scatter_19 (lv_at hl 4 rfl) ?_
    refine lv_aload_n hx hb dX7_scatter_21 rfl (lv_at hl 0 rfl) ?_
    refine lv_iload_n hx hb dX7_scatter_22 rfl (lv_at hl 1 rfl) ?_
    obtain ⟨v23_1100, hc23_1102, h⟩ := sm_bd h
    refine sm_ci (va_runV (As := [.int x2]) (rest := [.int x6_19_1096]) ⟨hx, hb, hml, hown, hts⟩ (k_X7_power l D cA adr hJ a0 x2 ha0 M19_1097 v23_1100 hc23_1102) (cwV 1 hts gX7_scatter_X7_power rfl rfl rfl (by decide +kernel) ⟨Nat.le_of_ble_eq_true rfl, Nat.le_of_ble_eq_true rfl⟩) ⟨smPc_bl, smRv hE hP ha0 rfl (ci := 7) (q := (RX7, TX7, 7)) rfl, smPc_in [.ref (adr a0), .int x2] hE hP⟩ rfl rfl hl.1 rfl (lv_room (Nat.le_of_ble_eq_true rfl)) dX7_scatter_23 ⟨Nat.zero_le _, Nat.zero_le _⟩) hS (fun H locs hP hS => ?_)
    refine lv_iload hx hb dX7_scatter_26 (lv_at hl 3 rfl) ?_
    refine lv_isub hx hb dX7_scatter_28 ?_
    refine lv_icmp_ge (tgt := 66) hx hb dX7_scatter_29 (by decide) (fun c29_1103 => ?_) (fun c29_1103 => ?_)
    · rw [if_pos c29_1103] at h
      refine lv_iinc (v := (x5_6_1087 + (1 : Int32))) (lv' := [(5, .int (x5_6_1087 + (1 : Int32))), (0, .ref (adr a0)), (2, .int x2), (3, .long z3_19_1095), (6, .int x6_19_1096)]) hx hb dX7_scatter_66 hl (k := 3) rfl (congrArg (fun z => x5_6_1087 + z) (by decide)) (by decide) rfl (fun ls hl => ?_)
      refine lv_goto (tgt := 6) hx hb dX7_scatter_69 (by decide) ?_
      exact ih6_1090 (z3_19_1095, (x5_6_1087 + (1 : Int32)), M19_1097) _ _ _ h ⟨hP, hS, lv_sub hl [1, 2, 3, 0] rfl⟩
    · rw [if_neg c29_1103] at h
      refine lv_lload_n hx hb dX7_scatter_32 rfl (lv_at hl 2 rfl) ?_
      refine lv_ldc2 (v := (16807 : Int64)) hx hb hown (hts (.constantLong RX7 58 (16807)) (by decide +kernel)) dX7_scatter_33 ?_
      refine lv_lmul hx hb dX7_scatter_36 ?_
      refine lv_ldc2 (v := (2147483647 : Int64)) hx hb hown (hts (.constantLong RX7 60 (2147483647)) (by decide +kernel)) dX7_scatter_37 ?_
      obtain ⟨c40_1104, h⟩ := sm_ck h
      refine lv_lrem hx hb dX7_scatter_40 c40_1104 ?_
      refine lv_lstore_n (lv' := [(3, .long ((z3_19_1095 * (16807 : Int64)) - (z3_19_1095 * (16807 : Int64)) / (2147483647 : Int64) * (2147483647 : Int64))), (0, .ref (adr a0)), (2, .int x2), (5, .int x5_6_1087), (6, .int x6_19_1096)]) hx hb dX7_scatter_41 rfl hl (by decide) rfl (fun ls hl => ?_)
      refine lv_aload_n hx hb dX7_scatter_42 rfl (lv_at hl 1 rfl) ?_
      refine lv_iload_n hx hb dX7_scatter_43 rfl (lv_at hl 2 rfl) ?_
      refine lv_iload hx hb dX7_scatter_44 (lv_at hl 4 rfl) ?_
      refine lv_iload hx hb dX7_scatter_46 (lv_at hl 3 rfl) ?_
      refine lv_lload_n hx hb dX7_scatter_48 rfl (lv_at hl 0 rfl) ?_
      refine lv_l2i hx hb dX7_scatter_49 rfl ?_
      refine lv_aload_n hx hb dX7_scatter_50 rfl (lv_at hl 1 rfl) ?_
      refine sm_get (ci := 7) (C := RX7) (T := TX7) (N := 7) (v := .int (M19_1097 a0 0)) hx hb hts hin7 hown hE hP ha0 rfl rfl 0 (by decide) (hts (.fieldLink RX7 9 "OrderMover$Setting" "p" "I") (by decide +kernel)) (fun _ h9 => h9) rfl dX7_scatter_51 ?_
      obtain ⟨v54_1105, hc54_1107, h⟩ := sm_bd h
      refine sm_ci (va_runSN (As := [.int ((((z3_19_1095 * (16807 : Int64)) - (z3_19_1095 * (16807 : Int64)) / (2147483647 : Int64) * (2147483647 : Int64))).toInt32), .int (M19_1097 a0 0)]) (rest := [.int x5_6_1087, .int x6_19_1096, .int x2, .ref (adr a0)]) ⟨hx, hb, hml, hown, hts⟩ (k_X11_leftOver l D cA adr hJ ((((z3_19_1095 * (16807 : Int64)) - (z3_19_1095 * (16807 : Int64)) / (2147483647 : Int64) * (2147483647 : Int64))).toInt32) (M19_1097 a0 0)  M19_1097 v54_1105 hc54_1107) ⟨va_cnB (host := "OrderMover") 2 hts gX7_scatter_X11_leftOver_n54 rfl rfl rfl (hE.2 (RX7, 54, yX11_leftOver, "OrderMover") (by decide +kernel)) (hts (.initialized RX11) (by decide +kernel)) (by decide +kernel) ⟨Nat.le_of_ble_eq_true rfl, Nat.le_of_ble_eq_true rfl⟩, hts (.static yX11_leftOver) (by decide +kernel), trivial⟩ ⟨smPc_bl, smPc_in [.int ((((z3_19_1095 * (16807 : Int64)) - (z3_19_1095 * (16807 : Int64)) / (2147483647 : Int64) * (2147483647 : Int64))).toInt32), .int (M19_1097 a0 0)] hE hP⟩ rfl rfl hl.1 rfl (lv_room (Nat.le_of_ble_eq_true rfl)) dX7_scatter_54 ⟨Nat.zero_le _, Nat.zero_le _⟩) hS (fun H locs hP hS => ?_)
      obtain ⟨M57_1109, hc57_1110, h⟩ := sm_bd h
      refine sm_cv (va_runV (As := [.int x2, .int x6_19_1096, .int x5_6_1087, .int v54_1105]) (rest := []) ⟨hx, hb, hml, hown, hts⟩ (k_X7_change l D cA adr hJ a0 x2 x6_19_1096 x5_6_1087 v54_1105 ha0 M19_1097 M57_1109 hc57_1110) (cwV 4 hts gX7_scatter_X7_change rfl rfl rfl (by decide +kernel) ⟨Nat.le_of_ble_eq_true rfl, Nat.le_of_ble_eq_true rfl⟩) ⟨smPc_bl, smRv hE hP ha0 rfl (ci := 7) (q := (RX7, TX7, 7)) rfl, smPc_in [.ref (adr a0), .int x2, .int x6_19_1096, .int x5_6_1087, .int v54_1105] hE hP⟩ rfl rfl hl.1 rfl (lv_room (Nat.le_of_ble_eq_true rfl)) dX7_scatter_57 ⟨Nat.zero_le _, Nat.zero_le _⟩) hS (fun H locs hP hS => ?_)
      refine lv_iinc (v := (x6_19_1096 + (1 : Int32))) (lv' := [(6, .int (x6_19_1096 + (1 : Int32))), (3, .long ((z3_19_1095 * (16807 : Int64)) - (z3_19_1095 * (16807 : Int64)) / (2147483647 : Int64) * (2147483647 : Int64))), (0, .ref (adr a0)), (2, .int x2), (5, .int x5_6_1087)]) hx hb dX7_scatter_60 hl (k := 4) rfl (congrArg (fun z => x6_19_1096 + z) (by decide)) (by decide) rfl (fun ls hl => ?_)
      refine lv_goto (tgt := 19) hx hb dX7_scatter_63 (by decide) ?_
      exact ih19_1099 (((z3_19_1095 * (16807 : Int64)) - (z3_19_1095 * (16807 : Int64)) / (2147483647 : Int64) * (2147483647 : Int64)), (x6_19_1096 + (1 : Int32)), M57_1109) _ _ _ h ⟨hP, hS, lv_sub hl [2, 3, 1, 4, 0] rfl⟩
set_option maxHeartbeats 4000000 in
set_option maxRecDepth 100000 in
theorem k_X8_findWanting (l : Launch) (D : va_G) (cA : Nat → ClassId) (adr : Nat → Nat) (hJ : smJ 1 adr) (a0 : Nat) (x1 : Int32) (ha0 : smT 1 a0 8) (M : smM) (v1 : Int32) (h : m_X8_findWanting a0 x1 M = some v1) : Met l yX8_findWanting wsX8_findWanting ({ frames := 0, cells := 0, slots := 0, locals := 0 }) (smPc D cA 1 adr M [.ref (adr a0), .int x1]) (smQi D cA 1 adr M v1) 0 0 (smA 1 adr) := by
  refine Met.ofW (cc := cX8_findWanting) (maxL := 2) (ret := (some .int)) (by decide) rfl ?_
  intro p e s m args below meth c s₁ B hml hv
  obtain ⟨rfl, hE, hP⟩ := hv
  have hx := B.exec
  have hb := B.bytes
  have hr := B.returns
  have hts := atoms_spec (ws := wsX8_findWanting) B.pre
  have hown : s.vm.findClass RX8 = some m.cls := findClass_of_methodNamed B.named
  have hlocks := B.notSynchronized
  have hS : va_S (smA 1 adr) s.heap s.heap [] := va_S.rf
  have hP : smP D cA 1 adr M s.heap := hP
  have hl := lv_entry ([.ref (adr a0), .int x1]) (n := 2) (Nat.le_of_ble_eq_true rfl)
  rw [lg_entry_eq]
  generalize (lg_sl ([.ref (adr a0), .int x1]) ++ List.replicate (2 - (lg_sl ([.ref (adr a0), .int x1])).length) Slot.unset).toArray = ls at hl ⊢
  have hl : lv_has ls 2 [(0, .ref (adr a0)), (1, .int x1)] := hl
  unfold m_X8_findWanting at h
  have hin8 : ∀ w ∈ u_ws RX8 TX8 4, w ∈ wsX8_findWanting := by decide +kernel
  refine lv_aload_n hx hb dX8_findWanting_0 rfl (lv_at hl 0 rfl) ?_
  refine sm_get (ci := 8) (C := RX8) (T := TX8) (N := 4) (v := .int (M a0 0)) hx hb hts hin8 hown hE hP ha0 rfl rfl 0 (by decide) (hts (.fieldLink RX8 9 "OrderMover$Slot" "holds" "I") (by decide +kernel)) (fun _ h9 => h9) rfl dX8_findWanting_1 ?_
  refine lv_if_ne (tgt := 10) hx hb dX8_findWanting_4 (by decide) (fun c4_1111 => ?_) (fun c4_1111 => ?_)
  · rw [if_neg c4_1111] at h
    refine lv_aload_n hx hb dX8_findWanting_10 rfl (lv_at hl 0 rfl) ?_
    refine sm_get (ci := 8) (C := RX8) (T := TX8) (N := 4) (v := .int (M a0 0)) hx hb hts hin8 hown hE hP ha0 rfl rfl 0 (by decide) (hts (.fieldLink RX8 9 "OrderMover$Slot" "holds" "I") (by decide +kernel)) (fun _ h9 => h9) rfl dX8_findWanting_11 ?_
    refine lv_iload_n hx hb dX8_findWanting_14 rfl (lv_at hl 1 rfl) ?_
    refine lv_icmp_ne (tgt := 22) hx hb dX8_findWanting_15 (by decide) (fun c15_1112 => ?_) (fun c15_1112 => ?_)
    · rw [if_neg c15_1112] at h
      refine lv_bipush (v := (-12 : Int32)) hx hb dX8_findWanting_22 (by decide) ?_
      cases h
      exact sm_iret hx hb hr hlocks hP hS dX8_findWanting_24
    · rw [if_pos c15_1112] at h
      refine lv_iconst (v := (0 : Int32)) hx hb dX8_findWanting_18 (by decide) ?_
      refine lv_goto (tgt := 24) hx hb dX8_findWanting_19 (by decide) ?_
      cases h
      exact sm_iret hx hb hr hlocks hP hS dX8_findWanting_24
  · rw [if_pos c4_1111] at h
    refine lv_bipush (v := (-11 : Int32)) hx hb dX8_findWanting_7 (by decide) ?_
    cases h
    exact sm_iret hx hb hr hlocks hP hS dX8_findWanting_9
set_option maxHeartbeats 4000000 in
set_option maxRecDepth 100000 in
theorem k_X8_hold (l : Launch) (D : va_G) (cA : Nat → ClassId) (adr : Nat → Nat) (hJ : smJ 1 adr) (a0 : Nat) (a1 : Nat) (ha0 : smT 1 a0 8) (ha1 : smT 1 a1 0) (M : smM) (M1 : smM) (h : m_X8_hold a0 a1 M = some M1) : Met l yX8_hold wsX8_hold ({ frames := 1, cells := 0, slots := 0, locals := 23 }) (smPc D cA 1 adr M [.ref (adr a0), .ref (adr a1)]) (smQv D cA 1 adr M1) 0 0 (smA 1 adr) := by
  refine Met.ofW (cc := cX8_hold) (maxL := 2) (ret := none) (by decide) rfl ?_
  intro p e s m args below meth c s₁ B hml hv
  obtain ⟨rfl, hE, hP⟩ := hv
  have hx := B.exec
  have hb := B.bytes
  have hr := B.returns
  have hts := atoms_spec (ws := wsX8_hold) B.pre
  have hown : s.vm.findClass RX8 = some m.cls := findClass_of_methodNamed B.named
  have hlocks := B.notSynchronized
  have hS : va_S (smA 1 adr) s.heap s.heap [] := va_S.rf
  have hP : smP D cA 1 adr M s.heap := hP
  have hl := lv_entry ([.ref (adr a0), .ref (adr a1)]) (n := 2) (Nat.le_of_ble_eq_true rfl)
  rw [lg_entry_eq]
  generalize (lg_sl ([.ref (adr a0), .ref (adr a1)]) ++ List.replicate (2 - (lg_sl ([.ref (adr a0), .ref (adr a1)])).length) Slot.unset).toArray = ls at hl ⊢
  have hl : lv_has ls 2 [(0, .ref (adr a0)), (1, .ref (adr a1))] := hl
  unfold m_X8_hold at h
  have hin0 : ∀ w ∈ u_ws RX0 TX0 9, w ∈ wsX8_hold := by decide +kernel
  have hin8 : ∀ w ∈ u_ws RX8 TX8 4, w ∈ wsX8_hold := by decide +kernel
  have hin10 : ∀ w ∈ u_ws RX10 TX10 3, w ∈ wsX8_hold := by decide +kernel
  refine lv_aload_n hx hb dX8_hold_0 rfl (lv_at hl 0 rfl) ?_
  refine sm_get (ci := 8) (C := RX8) (T := TX8) (N := 4) (v := .ref (adr (a0 + 5))) hx hb hts hin8 hown hE hP ha0 rfl rfl 2 (by decide) (hts (.fieldLink RX8 27 "OrderMover$Slot" "order" "LOrderMover$TermOrder;") (by decide +kernel)) (fun _ h9 => h9) rfl dX8_hold_1 ?_
  refine lv_aload_n hx hb dX8_hold_4 rfl (lv_at hl 1 rfl) ?_
  refine sm_get (ci := 0) (C := RX0) (T := TX0) (N := 9) (v := .ref (adr (a1 + 1))) hx hb hts hin0 hown hE hP ha1 rfl rfl 0 (by decide) (hts (.fieldLink RX8 38 "OrderMover$Base" "order" "LOrderMover$TermOrder;") (by decide +kernel)) (fun _ h9 => h9) rfl dX8_hold_5 ?_
  refine sm_get (ci := 10) (C := RX10) (T := TX10) (N := 3) (v := .int (M (a1 + 1) 0)) hx hb hts hin10 hown hE hP (t0_0 ha1) rfl rfl 0 (by decide) (hts (.fieldLink RX8 41 "OrderMover$TermOrder" "kind" "I") (by decide +kernel)) (fun _ h9 => h9) rfl dX8_hold_8 ?_
  refine lv_aload_n hx hb dX8_hold_11 rfl (lv_at hl 1 rfl) ?_
  refine sm_get (ci := 0) (C := RX0) (T := TX0) (N := 9) (v := .ref (adr (a1 + 1))) hx hb hts hin0 hown hE hP ha1 rfl rfl 0 (by decide) (hts (.fieldLink RX8 38 "OrderMover$Base" "order" "LOrderMover$TermOrder;") (by decide +kernel)) (fun _ h9 => h9) rfl dX8_hold_12 ?_
  refine sm_get (ci := 10) (C := RX10) (T := TX10) (N := 3) (v := .int (M (a1 + 1) 1)) hx hb hts hin10 hown hE hP (t0_0 ha1) rfl rfl 1 (by decide) (hts (.fieldLink RX8 44 "OrderMover$TermOrder" "u" "I") (by decide +kernel)) (fun _ h9 => h9) rfl dX8_hold_15 ?_
  refine lv_aload_n hx hb dX8_hold_18 rfl (lv_at hl 1 rfl) ?_
  refine sm_get (ci := 0) (C := RX0) (T := TX0) (N := 9) (v := .ref (adr (a1 + 1))) hx hb hts hin0 hown hE hP ha1 rfl rfl 0 (by decide) (hts (.fieldLink RX8 38 "OrderMover$Base" "order" "LOrderMover$TermOrder;") (by decide +kernel)) (fun _ h9 => h9) rfl dX8_hold_19 ?_
  refine sm_get (ci := 10) (C := RX10) (T := TX10) (N := 3) (v := .int (M (a1 + 1) 2)) hx hb hts hin10 hown hE hP (t0_0 ha1) rfl rfl 2 (by decide) (hts (.fieldLink RX8 47 "OrderMover$TermOrder" "v" "I") (by decide +kernel)) (fun _ h9 => h9) rfl dX8_hold_22 ?_
  obtain ⟨M25_1114, hc25_1115, h⟩ := sm_bd h
  refine sm_cv (va_runV (As := [.int (M (a1 + 1) 0), .int (M (a1 + 1) 1), .int (M (a1 + 1) 2)]) (rest := []) ⟨hx, hb, hml, hown, hts⟩ (k_X10_become l D cA adr hJ (a0 + 5) (M (a1 + 1) 0) (M (a1 + 1) 1) (M (a1 + 1) 2) (t8_2 ha0) M M25_1114 hc25_1115) (cwV 3 hts gX8_hold_X10_become rfl rfl rfl (by decide +kernel) ⟨Nat.le_of_ble_eq_true rfl, Nat.le_of_ble_eq_true rfl⟩) ⟨smPc_bl, smRv hE hP (t8_2 ha0) rfl (ci := 10) (q := (RX10, TX10, 3)) rfl, smPc_in [.ref (adr (a0 + 5)), .int (M (a1 + 1) 0), .int (M (a1 + 1) 1), .int (M (a1 + 1) 2)] hE hP⟩ rfl rfl hl.1 rfl (lv_room (Nat.le_of_ble_eq_true rfl)) dX8_hold_25 ⟨Nat.zero_le _, Nat.zero_le _⟩) hS (fun H locs hP hS => ?_)
  refine lv_aload_n hx hb dX8_hold_28 rfl (lv_at hl 0 rfl) ?_
  refine sm_get (ci := 8) (C := RX8) (T := TX8) (N := 4) (v := .ref (adr (a0 + 6))) hx hb hts hin8 hown hE hP ha0 rfl rfl 3 (by decide) (hts (.fieldLink RX8 34 "OrderMover$Slot" "members" "LOrderMover$Members;") (by decide +kernel)) (fun _ h9 => h9) rfl dX8_hold_29 ?_
  refine lv_aload_n hx hb dX8_hold_32 rfl (lv_at hl 1 rfl) ?_
  refine sm_get (ci := 0) (C := RX0) (T := TX0) (N := 9) (v := .ref (adr (a1 + 2))) hx hb hts hin0 hown hE hP ha1 rfl rfl 1 (by decide) (hts (.fieldLink RX8 54 "OrderMover$Base" "members" "LOrderMover$Members;") (by decide +kernel)) (fun _ h9 => h9) rfl dX8_hold_33 ?_
  obtain ⟨M36_1117, hc36_1118, h⟩ := sm_bd h
  refine sm_cv (va_runV (As := [.ref (adr (a1 + 2))]) (rest := []) ⟨hx, hb, hml, hown, hts⟩ (k_X4_copyFrom l D cA adr hJ (a0 + 6) (a1 + 2) (t8_3 ha0) (t0_1 ha1) M25_1114 M36_1117 hc36_1118) (cwV 1 hts gX8_hold_X4_copyFrom rfl rfl rfl (by decide +kernel) ⟨Nat.le_of_ble_eq_true rfl, Nat.le_of_ble_eq_true rfl⟩) ⟨smPc_bl, smRv hE hP (t8_3 ha0) rfl (ci := 4) (q := (RX4, TX4, 4)) rfl, smPc_in [.ref (adr (a0 + 6)), .ref (adr (a1 + 2))] hE hP⟩ rfl rfl hl.1 rfl (lv_room (Nat.le_of_ble_eq_true rfl)) dX8_hold_36 ⟨Nat.zero_le _, Nat.zero_le _⟩) hS (fun H locs hP hS => ?_)
  refine lv_aload_n hx hb dX8_hold_39 rfl (lv_at hl 0 rfl) ?_
  refine lv_iconst (v := (2 : Int32)) hx hb dX8_hold_40 (by decide) ?_
  refine sm_put (ci := 8) (C := RX8) (T := TX8) (N := 4) (ty := .int) hx hb hts hin8 tyX8 tyX8_ok nmX8 hown hE hJ hP hS ha0 rfl rfl 0 (by decide) (hts (.fieldLink RX8 9 "OrderMover$Slot" "holds" "I") (by decide +kernel)) (fun _ h9 => h9) rfl (by decide +kernel) rfl rfl (Nat.le_of_ble_eq_true rfl) rfl dX8_hold_41 (fun H locs hP hS => ?_)
  obtain ⟨M41_1119, hM, h⟩ := sm_lt h
  rw [← hM] at hP; clear hM
  cases h
  exact sm_vret hx hb hr hlocks hP hS dX8_hold_44
