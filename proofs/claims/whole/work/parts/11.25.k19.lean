set_option maxHeartbeats 4000000 in
set_option maxRecDepth 100000 in
theorem k_X12_degree (l : Launch) (D : va_G) (cA : Nat → ClassId) (adr : Nat → Nat) (hJ : smJ 2 adr) (a0 : Nat) (x1 : Int32) (ha0 : smT 2 a0 12) (M : smM) (v1 : Int32) (h : m_X12_degree a0 x1 M = some v1) : Met l yX12_degree wsX12_degree ({ frames := 2, cells := 0, slots := 0, locals := 45 }) (smPc D cA 2 adr M [.ref (adr a0), .int x1]) (smQi D cA 2 adr M v1) 0 0 (smA 2 adr) := by
  refine Met.ofW (cc := cX12_degree) (maxL := 8) (ret := (some .int)) (by decide) rfl ?_
  intro p e s m args below meth c s₁ B hml hv
  obtain ⟨rfl, hE, hP⟩ := hv
  have hx := B.exec
  have hb := B.bytes
  have hr := B.returns
  have hts := atoms_spec (ws := wsX12_degree) B.pre
  have hown : s.vm.findClass RX12 = some m.cls := findClass_of_methodNamed B.named
  have hlocks := B.notSynchronized
  have hS : va_S (smA 2 adr) s.heap s.heap [] := va_S.rf
  have hP : smP D cA 2 adr M s.heap := hP
  have hl := lv_entry ([.ref (adr a0), .int x1]) (n := 8) (Nat.le_of_ble_eq_true rfl)
  rw [lg_entry_eq]
  generalize (lg_sl ([.ref (adr a0), .int x1]) ++ List.replicate (8 - (lg_sl ([.ref (adr a0), .int x1])).length) Slot.unset).toArray = ls at hl ⊢
  have hl : lv_has ls 8 [(0, .ref (adr a0)), (1, .int x1)] := hl
  unfold m_X12_degree at h
  have hin12 : ∀ w ∈ u_ws RX12 TX12 54, w ∈ wsX12_degree := by decide +kernel
  refine lv_iload_n hx hb dX12_degree_0 rfl (lv_at hl 1 rfl) ?_
  obtain ⟨v1_2678, hc1_2680, h⟩ := sm_bd h
  refine sm_ci (va_runS (As := [.int x1]) (rest := []) ⟨hx, hb, hml, hown, hts⟩ (k_X12_isSlot l D cA adr hJ x1  M v1_2678 hc1_2680) (va_cwS 1 hts gX12_degree_X12_isSlot rfl rfl rfl (by decide +kernel) ⟨Nat.le_of_ble_eq_true rfl, Nat.le_of_ble_eq_true rfl⟩) ⟨smPc_bl, smPc_in [.int x1] hE hP⟩ rfl rfl hl.1 rfl (lv_room (Nat.le_of_ble_eq_true rfl)) dX12_degree_1 ⟨Nat.zero_le _, Nat.zero_le _⟩) hS (fun H locs hP hS => ?_)
  refine lv_if_ne (tgt := 9) hx hb dX12_degree_4 (by decide) (fun c4_2681 => ?_) (fun c4_2681 => ?_)
  · rw [if_neg c4_2681] at h
    refine lv_aload_n hx hb dX12_degree_9 rfl (lv_at hl 0 rfl) ?_
    refine lv_iload_n hx hb dX12_degree_10 rfl (lv_at hl 1 rfl) ?_
    refine lv_iconst (v := (1 : Int32)) hx hb dX12_degree_11 (by decide) ?_
    obtain ⟨v12_2682, hc12_2684, h⟩ := sm_bd h
    refine sm_ci (va_runV (As := [.int x1, .int (1 : Int32)]) (rest := []) ⟨hx, hb, hml, hown, hts⟩ (k_X12_lacks l D cA adr hJ a0 x1 (1 : Int32) ha0 M v12_2682 hc12_2684) (cwV 2 hts gX12_degree_X12_lacks rfl rfl rfl (by decide +kernel) ⟨Nat.le_of_ble_eq_true rfl, Nat.le_of_ble_eq_true rfl⟩) ⟨smPc_bl, smRv hE hP ha0 rfl (ci := 12) (q := (RX12, TX12, 54)) rfl, smPc_in [.ref (adr a0), .int x1, .int (1 : Int32)] hE hP⟩ rfl rfl hl.1 rfl (lv_room (Nat.le_of_ble_eq_true rfl)) dX12_degree_12 ⟨Nat.zero_le _, Nat.zero_le _⟩) hS (fun H locs hP hS => ?_)
    refine lv_istore_n (lv' := [(2, .int v12_2682), (0, .ref (adr a0)), (1, .int x1)]) hx hb dX12_degree_15 rfl hl (by decide) rfl (fun ls hl => ?_)
    refine lv_iload_n hx hb dX12_degree_16 rfl (lv_at hl 0 rfl) ?_
    refine lv_if_ge (tgt := 22) hx hb dX12_degree_17 (by decide) (fun c17_2685 => ?_) (fun c17_2685 => ?_)
    · rw [if_pos c17_2685] at h
      refine lv_ldc2 (v := (-4 : Int64)) hx hb hown (hts (.constantLong RX12 323 (-4)) (by decide +kernel)) dX12_degree_22 ?_
      refine lv_lstore_n (lv' := [(3, .long (-4 : Int64)), (2, .int v12_2682), (0, .ref (adr a0)), (1, .int x1)]) hx hb dX12_degree_25 rfl hl (by decide) rfl (fun ls hl => ?_)
      refine lv_bipush (v := (8 : Int32)) hx hb dX12_degree_26 (by decide) ?_
      refine lv_iload_n hx hb dX12_degree_28 rfl (lv_at hl 3 rfl) ?_
      refine lv_imul hx hb dX12_degree_29 ?_
      refine lv_istore (lv' := [(5, .int ((8 : Int32) * x1)), (3, .long (-4 : Int64)), (2, .int v12_2682), (0, .ref (adr a0)), (1, .int x1)]) hx hb dX12_degree_30 hl (by decide) rfl (fun ls hl => ?_)
      refine sm_lp (b := fun rc q => m_X12_degree_b32 a0 x1 M rc q.1 q.2) (P := fun (q : Int64 × Int32) H locs ls => smP D cA 2 adr M H ∧ va_S (smA 2 adr) s.heap H locs ∧ lv_has ls 8 [(0, .ref (adr a0)), (1, .int x1), (3, .long q.1), (5, .int q.2)]) (pc := 32) ?_ _ _ _ _ _ h ⟨hP, hS, lv_sub hl [3, 4, 1, 0] rfl⟩
      intro rc32_2688 ih32_2689 q H locs ls h hI
      obtain ⟨z3_32_2686, x5_32_2687⟩ := q
      obtain ⟨hP, hS, hl⟩ := hI
      have hP : smP D cA 2 adr M H := hP
      have hl : lv_has ls 8 [(0, .ref (adr a0)), (1, .int x1), (3, .long z3_32_2686), (5, .int x5_32_2687)] := hl
      have h : m_X12_degree_b32 a0 x1 M rc32_2688 z3_32_2686 x5_32_2687 = some _ := h
      unfold m_X12_degree_b32 at h
      refine lv_iload hx hb dX12_degree_32 (lv_at hl 3 rfl) ?_
      refine lv_bipush (v := (8 : Int32)) hx hb dX12_degree_34 (by decide) ?_
      refine lv_iload_n hx hb dX12_degree_36 rfl (lv_at hl 1 rfl) ?_
      refine lv_imul hx hb dX12_degree_37 ?_
      refine lv_aload_n hx hb dX12_degree_38 rfl (lv_at hl 0 rfl) ?_
      refine sm_get (ci := 12) (C := RX12) (T := TX12) (N := 54) (v := .ref (adr (a0 + 3))) hx hb hts hin12 hown hE hP ha0 rfl rfl 7 (by decide) (hts (.fieldLink RX12 32 "OrderMoverModel" "many" "[I") (by decide +kernel)) (fun _ h9 => h9) rfl dX12_degree_39 ?_
      refine lv_iload_n hx hb dX12_degree_42 rfl (lv_at hl 1 rfl) ?_
      obtain ⟨c43_2690, h⟩ := sm_ck h
      refine sm_iald hx hb hE hP (t12_7 ha0) c43_2690 dX12_degree_43 ?_
      refine lv_iadd hx hb dX12_degree_44 ?_
      refine lv_icmp_ge (tgt := 87) hx hb dX12_degree_45 (by decide) (fun c45_2691 => ?_) (fun c45_2691 => ?_)
      · rw [if_pos c45_2691] at h
        refine lv_lload_n hx hb dX12_degree_87 rfl (lv_at hl 2 rfl) ?_
        refine lv_ldc2 (v := (2147483647 : Int64)) hx hb hown (hts (.constantLong RX12 182 (2147483647)) (by decide +kernel)) dX12_degree_88 ?_
        refine W.lcmp hx hb dX12_degree_91 ?_
        refine lv_if_le (tgt := 100) hx hb dX12_degree_92 (by decide) (fun c92_2692 => ?_) (fun c92_2692 => ?_)
        · rw [if_pos c92_2692] at h
          refine lv_lload_n hx hb dX12_degree_100 rfl (lv_at hl 2 rfl) ?_
          refine lv_l2i hx hb dX12_degree_101 rfl ?_
          cases h
          exact sm_iret hx hb hr hlocks hP hS dX12_degree_102
        · rw [if_neg c92_2692] at h
          refine lv_bipush (v := (-13 : Int32)) hx hb dX12_degree_95 (by decide) ?_
          refine lv_goto (tgt := 102) hx hb dX12_degree_97 (by decide) ?_
          cases h
          exact sm_iret hx hb hr hlocks hP hS dX12_degree_102
      · rw [if_neg c45_2691] at h
        refine lv_aload_n hx hb dX12_degree_48 rfl (lv_at hl 0 rfl) ?_
        refine sm_get (ci := 12) (C := RX12) (T := TX12) (N := 54) (v := .ref (adr (a0 + 5))) hx hb hts hin12 hown hE hP ha0 rfl rfl 9 (by decide) (hts (.fieldLink RX12 38 "OrderMoverModel" "powersI" "[I") (by decide +kernel)) (fun _ h9 => h9) rfl dX12_degree_49 ?_
        refine lv_iload hx hb dX12_degree_52 (lv_at hl 3 rfl) ?_
        obtain ⟨c54_2693, h⟩ := sm_ck h
        refine sm_iald hx hb hE hP (t12_9 ha0) c54_2693 dX12_degree_54 ?_
        refine lv_i2l hx hb dX12_degree_55 rfl ?_
        refine lv_aload_n hx hb dX12_degree_56 rfl (lv_at hl 0 rfl) ?_
        refine sm_get (ci := 12) (C := RX12) (T := TX12) (N := 54) (v := .ref (adr (a0 + 6))) hx hb hts hin12 hown hE hP ha0 rfl rfl 10 (by decide) (hts (.fieldLink RX12 41 "OrderMoverModel" "powersJ" "[I") (by decide +kernel)) (fun _ h9 => h9) rfl dX12_degree_57 ?_
        refine lv_iload hx hb dX12_degree_60 (lv_at hl 3 rfl) ?_
        obtain ⟨c62_2694, h⟩ := sm_ck h
        refine sm_iald hx hb hE hP (t12_10 ha0) c62_2694 dX12_degree_62 ?_
        refine lv_i2l hx hb dX12_degree_63 rfl ?_
        refine lv_ladd hx hb dX12_degree_64 ?_
        refine lv_lstore (lv' := [(6, .long (((M (a0 + 5) (x5_32_2687).toNatClampNeg)).toInt64 + ((M (a0 + 6) (x5_32_2687).toNatClampNeg)).toInt64)), (0, .ref (adr a0)), (1, .int x1), (3, .long z3_32_2686), (5, .int x5_32_2687)]) hx hb dX12_degree_65 hl (by decide) rfl (fun ls hl => ?_)
        refine lv_lload hx hb dX12_degree_67 (lv_at hl 0 rfl) ?_
        refine lv_lload_n hx hb dX12_degree_69 rfl (lv_at hl 3 rfl) ?_
        refine W.lcmp hx hb dX12_degree_70 ?_
        refine lv_if_le (tgt := 79) hx hb dX12_degree_71 (by decide) (fun c71_2695 => ?_) (fun c71_2695 => ?_)
        · rw [if_pos c71_2695] at h
          refine lv_lload_n hx hb dX12_degree_79 rfl (lv_at hl 3 rfl) ?_
          refine lv_lstore_n (lv' := [(3, .long z3_32_2686), (6, .long (((M (a0 + 5) (x5_32_2687).toNatClampNeg)).toInt64 + ((M (a0 + 6) (x5_32_2687).toNatClampNeg)).toInt64)), (0, .ref (adr a0)), (1, .int x1), (5, .int x5_32_2687)]) hx hb dX12_degree_80 rfl hl (by decide) rfl (fun ls hl => ?_)
          refine lv_iinc (v := (x5_32_2687 + (1 : Int32))) (lv' := [(5, .int (x5_32_2687 + (1 : Int32))), (3, .long z3_32_2686), (6, .long (((M (a0 + 5) (x5_32_2687).toNatClampNeg)).toInt64 + ((M (a0 + 6) (x5_32_2687).toNatClampNeg)).toInt64)), (0, .ref (adr a0)), (1, .int x1)]) hx hb dX12_degree_81 hl (k := 4) rfl (congrArg (fun z => x5_32_2687 + z) (by decide)) (by decide) rfl (fun ls hl => ?_)
          refine lv_goto (tgt := 32) hx hb dX12_degree_84 (by decide) ?_
          exact ih32_2689 (z3_32_2686, (x5_32_2687 + (1 : Int32))) _ _ _ h ⟨hP, hS, lv_sub hl [3, 4, 1, 0] rfl⟩
        · rw [if_neg c71_2695] at h
          refine lv_lload hx hb dX12_degree_74 (lv_at hl 0 rfl) ?_
          refine lv_goto (tgt := 80) hx hb dX12_degree_76 (by decide) ?_
          refine lv_lstore_n (lv' := [(3, .long (((M (a0 + 5) (x5_32_2687).toNatClampNeg)).toInt64 + ((M (a0 + 6) (x5_32_2687).toNatClampNeg)).toInt64)), (6, .long (((M (a0 + 5) (x5_32_2687).toNatClampNeg)).toInt64 + ((M (a0 + 6) (x5_32_2687).toNatClampNeg)).toInt64)), (0, .ref (adr a0)), (1, .int x1), (5, .int x5_32_2687)]) hx hb dX12_degree_80 rfl hl (by decide) rfl (fun ls hl => ?_)
          refine lv_iinc (v := (x5_32_2687 + (1 : Int32))) (lv' := [(5, .int (x5_32_2687 + (1 : Int32))), (3, .long (((M (a0 + 5) (x5_32_2687).toNatClampNeg)).toInt64 + ((M (a0 + 6) (x5_32_2687).toNatClampNeg)).toInt64)), (6, .long (((M (a0 + 5) (x5_32_2687).toNatClampNeg)).toInt64 + ((M (a0 + 6) (x5_32_2687).toNatClampNeg)).toInt64)), (0, .ref (adr a0)), (1, .int x1)]) hx hb dX12_degree_81 hl (k := 4) rfl (congrArg (fun z => x5_32_2687 + z) (by decide)) (by decide) rfl (fun ls hl => ?_)
          refine lv_goto (tgt := 32) hx hb dX12_degree_84 (by decide) ?_
          exact ih32_2689 ((((M (a0 + 5) (x5_32_2687).toNatClampNeg)).toInt64 + ((M (a0 + 6) (x5_32_2687).toNatClampNeg)).toInt64), (x5_32_2687 + (1 : Int32))) _ _ _ h ⟨hP, hS, lv_sub hl [3, 4, 1, 0] rfl⟩
    · rw [if_neg c17_2685] at h
      refine lv_iload_n hx hb dX12_degree_20 rfl (lv_at hl 0 rfl) ?_
      cases h
      exact sm_iret hx hb hr hlocks hP hS dX12_degree_21
  · rw [if_pos c4_2681] at h
    refine lv_iconst (v := (-1 : Int32)) hx hb dX12_degree_7 (by decide) ?_
    cases h
    exact sm_iret hx hb hr hlocks hP hS dX12_degree_8
set_option maxHeartbeats 4000000 in
set_option maxRecDepth 100000 in
theorem k_X12_drift (l : Launch) (D : va_G) (cA : Nat → ClassId) (adr : Nat → Nat) (hJ : smJ 2 adr) (a0 : Nat) (x1 : Int32) (ha0 : smT 2 a0 12) (M : smM) (v1 : Int32) (M1 : smM) (h : m_X12_drift a0 x1 M = some (v1, M1)) : Met l yX12_drift wsX12_drift ({ frames := 1, cells := 0, slots := 0, locals := 25 }) (smPc D cA 2 adr M [.ref (adr a0), .int x1]) (smQi D cA 2 adr M1 v1) 0 0 (smA 2 adr) := by
  refine Met.ofW (cc := cX12_drift) (maxL := 8) (ret := (some .int)) (by decide) rfl ?_
  intro p e s m args below meth c s₁ B hml hv
  obtain ⟨rfl, hE, hP⟩ := hv
  have hx := B.exec
  have hb := B.bytes
  have hr := B.returns
  have hts := atoms_spec (ws := wsX12_drift) B.pre
  have hown : s.vm.findClass RX12 = some m.cls := findClass_of_methodNamed B.named
  have hlocks := B.notSynchronized
  have hS : va_S (smA 2 adr) s.heap s.heap [] := va_S.rf
  have hP : smP D cA 2 adr M s.heap := hP
  have hl := lv_entry ([.ref (adr a0), .int x1]) (n := 8) (Nat.le_of_ble_eq_true rfl)
  rw [lg_entry_eq]
  generalize (lg_sl ([.ref (adr a0), .int x1]) ++ List.replicate (8 - (lg_sl ([.ref (adr a0), .int x1])).length) Slot.unset).toArray = ls at hl ⊢
  have hl : lv_has ls 8 [(0, .ref (adr a0)), (1, .int x1)] := hl
  unfold m_X12_drift at h
  have hin12 : ∀ w ∈ u_ws RX12 TX12 54, w ∈ wsX12_drift := by decide +kernel
  refine lv_iload_n hx hb dX12_drift_0 rfl (lv_at hl 1 rfl) ?_
  refine lv_i2l hx hb dX12_drift_1 rfl ?_
  refine lv_lconst (v := (1 : Int64)) hx hb dX12_drift_2 (by decide) ?_
  refine lv_ldc2 (v := (999999 : Int64)) hx hb hown (hts (.constantLong RX12 178 (999999)) (by decide +kernel)) dX12_drift_3 ?_
  obtain ⟨v6_2696, hc6_2698, h⟩ := sm_bd h
  refine sm_ci (va_runS (As := [.long ((x1).toInt64), .long (1 : Int64), .long (999999 : Int64)]) (rest := []) ⟨hx, hb, hml, hown, hts⟩ (k_X12_in l D cA adr hJ ((x1).toInt64) (1 : Int64) (999999 : Int64)  M v6_2696 hc6_2698) (va_cwS 3 hts gX12_drift_X12_in rfl rfl rfl (by decide +kernel) ⟨Nat.le_of_ble_eq_true rfl, Nat.le_of_ble_eq_true rfl⟩) ⟨smPc_bl, smPc_in [.long ((x1).toInt64), .long (1 : Int64), .long (999999 : Int64)] hE hP⟩ rfl rfl hl.1 rfl (lv_room (Nat.le_of_ble_eq_true rfl)) dX12_drift_6 ⟨Nat.zero_le _, Nat.zero_le _⟩) hS (fun H locs hP hS => ?_)
  refine lv_if_ne (tgt := 14) hx hb dX12_drift_9 (by decide) (fun c9_2699 => ?_) (fun c9_2699 => ?_)
  · rw [if_neg c9_2699] at h
    refine lv_iload_n hx hb dX12_drift_14 rfl (lv_at hl 1 rfl) ?_
    refine lv_i2l hx hb dX12_drift_15 rfl ?_
    refine lv_lstore_n (lv' := [(2, .long ((x1).toInt64)), (0, .ref (adr a0)), (1, .int x1)]) hx hb dX12_drift_16 rfl hl (by decide) rfl (fun ls hl => ?_)
    refine lv_iconst (v := (0 : Int32)) hx hb dX12_drift_17 (by decide) ?_
    refine lv_istore (lv' := [(4, .int (0 : Int32)), (2, .long ((x1).toInt64)), (0, .ref (adr a0)), (1, .int x1)]) hx hb dX12_drift_18 hl (by decide) rfl (fun ls hl => ?_)
    refine sm_lp (b := fun rc q => m_X12_drift_b20 a0 rc q.1 q.2.1 q.2.2) (P := fun (q : Int64 × Int32 × smM) H locs ls => smP D cA 2 adr q.2.2 H ∧ va_S (smA 2 adr) s.heap H locs ∧ lv_has ls 8 [(0, .ref (adr a0)), (2, .long q.1), (4, .int q.2.1)]) (pc := 20) ?_ _ _ _ _ _ h ⟨hP, hS, lv_sub hl [2, 1, 0] rfl⟩
    intro rc20_2703 ih20_2704 q H locs ls h hI
    obtain ⟨z2_20_2700, x4_20_2701, M20_2702⟩ := q
    obtain ⟨hP, hS, hl⟩ := hI
    have hP : smP D cA 2 adr M20_2702 H := hP
    have hl : lv_has ls 8 [(0, .ref (adr a0)), (2, .long z2_20_2700), (4, .int x4_20_2701)] := hl
    have h : m_X12_drift_b20 a0 rc20_2703 z2_20_2700 x4_20_2701 M20_2702 = some _ := h
    unfold m_X12_drift_b20 at h
    refine lv_iload hx hb dX12_drift_20 (lv_at hl 2 rfl) ?_
    refine lv_iconst (v := (2 : Int32)) hx hb dX12_drift_22 (by decide) ?_
    refine lv_icmp_ge (tgt := 121) hx hb dX12_drift_23 (by decide) (fun c23_2705 => ?_) (fun c23_2705 => ?_)
    · rw [if_pos c23_2705] at h
      refine lv_aload_n hx hb dX12_drift_121 rfl (lv_at hl 0 rfl) ?_
      obtain ⟨v122_2706, hc122_2708, h⟩ := sm_bd h
      refine sm_ci (va_runV (As := []) (rest := []) ⟨hx, hb, hml, hown, hts⟩ (k_X12_dimension l D cA adr hJ a0 ha0 M20_2702 v122_2706 hc122_2708) (cwV 0 hts gX12_drift_X12_dimension rfl rfl rfl (by decide +kernel) ⟨Nat.le_of_ble_eq_true rfl, Nat.le_of_ble_eq_true rfl⟩) ⟨smPc_bl, smRv hE hP ha0 rfl (ci := 12) (q := (RX12, TX12, 54)) rfl, smPc_in [.ref (adr a0)] hE hP⟩ rfl rfl hl.1 rfl (lv_room (Nat.le_of_ble_eq_true rfl)) dX12_drift_122 ⟨Nat.zero_le _, Nat.zero_le _⟩) hS (fun H locs hP hS => ?_)
      cases h
      exact sm_iret hx hb hr hlocks hP hS dX12_drift_125
    · rw [if_neg c23_2705] at h
      refine lv_iload hx hb dX12_drift_26 (lv_at hl 2 rfl) ?_
      refine sm_jn (x := (v1, M1)) (T := fun (q : Int32) => m_X12_drift_j42 a0 z2_20_2700 x4_20_2701 M20_2702 rc20_2703 q) (P := fun (q : Int32) H locs ls => smP D cA 2 adr M20_2702 H ∧ va_S (smA 2 adr) s.heap H locs ∧ lv_has ls 8 [(0, .ref (adr a0)), (2, .long z2_20_2700), (4, .int x4_20_2701)]) (st := fun (q : Int32) => [.int q]) (pc := 42) ?_ (fun J42_2710 => ?_)
      · intro q H locs ls h hI
        obtain ⟨s0_42_2709, hq⟩ : ∃ y, y = q := ⟨_, rfl⟩; subst hq
        obtain ⟨hP, hS, hl⟩ := hI
        have hP : smP D cA 2 adr M20_2702 H := hP
        have hl : lv_has ls 8 [(0, .ref (adr a0)), (2, .long z2_20_2700), (4, .int x4_20_2701)] := hl
        have h : m_X12_drift_j42 a0 z2_20_2700 x4_20_2701 M20_2702 rc20_2703 s0_42_2709 = some _ := h
        unfold m_X12_drift_j42 at h
        refine W.eq (g2 := F0 m 42 ls [.int s0_42_2709]) rfl ?_
        refine lv_istore (lv' := [(5, .int s0_42_2709), (0, .ref (adr a0)), (2, .long z2_20_2700), (4, .int x4_20_2701)]) hx hb dX12_drift_42 hl (by decide) rfl (fun ls hl => ?_)
        refine lv_iconst (v := (0 : Int32)) hx hb dX12_drift_44 (by decide) ?_
        refine lv_istore (lv' := [(6, .int (0 : Int32)), (5, .int s0_42_2709), (0, .ref (adr a0)), (2, .long z2_20_2700), (4, .int x4_20_2701)]) hx hb dX12_drift_45 hl (by decide) rfl (fun ls hl => ?_)
        refine sm_lp (b := fun rc q => m_X12_drift_b47 a0 x4_20_2701 s0_42_2709 rc20_2703 rc q.1 q.2.1 q.2.2) (P := fun (q : Int64 × Int32 × smM) H locs ls => smP D cA 2 adr q.2.2 H ∧ va_S (smA 2 adr) s.heap H locs ∧ lv_has ls 8 [(0, .ref (adr a0)), (2, .long q.1), (4, .int x4_20_2701), (5, .int s0_42_2709), (6, .int q.2.1)]) (pc := 47) ?_ _ _ _ _ _ h ⟨hP, hS, lv_sub hl [2, 3, 4, 1, 0] rfl⟩
        intro rc47_2714 ih47_2715 q H locs ls h hI
        obtain ⟨z2_47_2711, x6_47_2712, M47_2713⟩ := q
        obtain ⟨hP, hS, hl⟩ := hI
        have hP : smP D cA 2 adr M47_2713 H := hP
        have hl : lv_has ls 8 [(0, .ref (adr a0)), (2, .long z2_47_2711), (4, .int x4_20_2701), (5, .int s0_42_2709), (6, .int x6_47_2712)] := hl
        have h : m_X12_drift_b47 a0 x4_20_2701 s0_42_2709 rc20_2703 rc47_2714 z2_47_2711 x6_47_2712 M47_2713 = some _ := h
        unfold m_X12_drift_b47 at h
        refine lv_iload hx hb dX12_drift_47 (lv_at hl 4 rfl) ?_
        refine lv_iload hx hb dX12_drift_49 (lv_at hl 3 rfl) ?_
        refine lv_icmp_ge (tgt := 115) hx hb dX12_drift_51 (by decide) (fun c51_2716 => ?_) (fun c51_2716 => ?_)
        · rw [if_pos c51_2716] at h
          refine lv_iinc (v := (x4_20_2701 + (1 : Int32))) (lv' := [(4, .int (x4_20_2701 + (1 : Int32))), (0, .ref (adr a0)), (2, .long z2_47_2711), (5, .int s0_42_2709), (6, .int x6_47_2712)]) hx hb dX12_drift_115 hl (k := 2) rfl (congrArg (fun z => x4_20_2701 + z) (by decide)) (by decide) rfl (fun ls hl => ?_)
          refine lv_goto (tgt := 20) hx hb dX12_drift_118 (by decide) ?_
          exact ih20_2704 (z2_47_2711, (x4_20_2701 + (1 : Int32)), M47_2713) _ _ _ h ⟨hP, hS, lv_sub hl [1, 2, 0] rfl⟩
        · rw [if_neg c51_2716] at h
          refine lv_iconst (v := (0 : Int32)) hx hb dX12_drift_54 (by decide) ?_
          refine lv_istore (lv' := [(7, .int (0 : Int32)), (0, .ref (adr a0)), (2, .long z2_47_2711), (4, .int x4_20_2701), (5, .int s0_42_2709), (6, .int x6_47_2712)]) hx hb dX12_drift_55 hl (by decide) rfl (fun ls hl => ?_)
          refine sm_lp (b := fun rc q => m_X12_drift_b57 a0 x4_20_2701 s0_42_2709 x6_47_2712 rc20_2703 rc47_2714 rc q.1 q.2.1 q.2.2) (P := fun (q : Int64 × Int32 × smM) H locs ls => smP D cA 2 adr q.2.2 H ∧ va_S (smA 2 adr) s.heap H locs ∧ lv_has ls 8 [(0, .ref (adr a0)), (2, .long q.1), (4, .int x4_20_2701), (5, .int s0_42_2709), (6, .int x6_47_2712), (7, .int q.2.1)]) (pc := 57) ?_ _ _ _ _ _ h ⟨hP, hS, lv_sub hl [1, 2, 3, 4, 5, 0] rfl⟩
          intro rc57_2720 ih57_2721 q H locs ls h hI
          obtain ⟨z2_57_2717, x7_57_2718, M57_2719⟩ := q
          obtain ⟨hP, hS, hl⟩ := hI
          have hP : smP D cA 2 adr M57_2719 H := hP
          have hl : lv_has ls 8 [(0, .ref (adr a0)), (2, .long z2_57_2717), (4, .int x4_20_2701), (5, .int s0_42_2709), (6, .int x6_47_2712), (7, .int x7_57_2718)] := hl
          have h : m_X12_drift_b57 a0 x4_20_2701 s0_42_2709 x6_47_2712 rc20_2703 rc47_2714 rc57_2720 z2_57_2717 x7_57_2718 M57_2719 = some _ := h
          unfold m_X12_drift_b57 at h
          refine lv_iload hx hb dX12_drift_57 (lv_at hl 5 rfl) ?_
          refine lv_iload hx hb dX12_drift_59 (lv_at hl 4 rfl) ?_
          refine lv_iadd hx hb dX12_drift_61 ?_
          refine lv_iload hx hb dX12_drift_62 (lv_at hl 3 rfl) ?_
          refine lv_icmp_ge (tgt := 109) hx hb dX12_drift_64 (by decide) (fun c64_2722 => ?_) (fun c64_2722 => ?_)
          · rw [if_pos c64_2722] at h
            refine lv_iinc (v := (x6_47_2712 + (1 : Int32))) (lv' := [(6, .int (x6_47_2712 + (1 : Int32))), (0, .ref (adr a0)), (2, .long z2_57_2717), (4, .int x4_20_2701), (5, .int s0_42_2709), (7, .int x7_57_2718)]) hx hb dX12_drift_109 hl (k := 4) rfl (congrArg (fun z => x6_47_2712 + z) (by decide)) (by decide) rfl (fun ls hl => ?_)
            refine lv_goto (tgt := 47) hx hb dX12_drift_112 (by decide) ?_
            exact ih47_2715 (z2_57_2717, (x6_47_2712 + (1 : Int32)), M57_2719) _ _ _ h ⟨hP, hS, lv_sub hl [1, 2, 3, 4, 0] rfl⟩
          · rw [if_neg c64_2722] at h
            refine lv_lload_n hx hb dX12_drift_67 rfl (lv_at hl 1 rfl) ?_
            refine lv_ldc2 (v := (16807 : Int64)) hx hb hown (hts (.constantLong RX12 180 (16807)) (by decide +kernel)) dX12_drift_68 ?_
            refine lv_lmul hx hb dX12_drift_71 ?_
            refine lv_ldc2 (v := (2147483647 : Int64)) hx hb hown (hts (.constantLong RX12 182 (2147483647)) (by decide +kernel)) dX12_drift_72 ?_
            obtain ⟨c75_2723, h⟩ := sm_ck h
            refine lv_lrem hx hb dX12_drift_75 c75_2723 ?_
            refine lv_lstore_n (lv' := [(2, .long ((z2_57_2717 * (16807 : Int64)) - (z2_57_2717 * (16807 : Int64)) / (2147483647 : Int64) * (2147483647 : Int64))), (0, .ref (adr a0)), (4, .int x4_20_2701), (5, .int s0_42_2709), (6, .int x6_47_2712), (7, .int x7_57_2718)]) hx hb dX12_drift_76 rfl hl (by decide) rfl (fun ls hl => ?_)
            refine lv_aload_n hx hb dX12_drift_77 rfl (lv_at hl 1 rfl) ?_
            refine sm_get (ci := 12) (C := RX12) (T := TX12) (N := 54) (v := .ref (adr (a0 + 1))) hx hb hts hin12 hown hE hP ha0 rfl rfl 5 (by decide) (hts (.fieldLink RX12 25 "OrderMoverModel" "coefficients" "[I") (by decide +kernel)) (fun _ h9 => h9) rfl dX12_drift_78 ?_
            refine lv_bipush (v := (9 : Int32)) hx hb dX12_drift_81 (by decide) ?_
            refine lv_iload hx hb dX12_drift_83 (lv_at hl 2 rfl) ?_
            refine lv_imul hx hb dX12_drift_85 ?_
            refine lv_iconst (v := (3 : Int32)) hx hb dX12_drift_86 (by decide) ?_
            refine lv_iload hx hb dX12_drift_87 (lv_at hl 5 rfl) ?_
            refine lv_imul hx hb dX12_drift_89 ?_
            refine lv_iadd hx hb dX12_drift_90 ?_
            refine lv_iload hx hb dX12_drift_91 (lv_at hl 4 rfl) ?_
            refine lv_iadd hx hb dX12_drift_93 ?_
            refine lv_lload_n hx hb dX12_drift_94 rfl (lv_at hl 0 rfl) ?_
            refine lv_aload_n hx hb dX12_drift_95 rfl (lv_at hl 1 rfl) ?_
            refine sm_get (ci := 12) (C := RX12) (T := TX12) (N := 54) (v := .int (M57_2719 a0 0)) hx hb hts hin12 hown hE hP ha0 rfl rfl 0 (by decide) (hts (.fieldLink RX12 7 "OrderMoverModel" "p" "I") (by decide +kernel)) (fun _ h9 => h9) rfl dX12_drift_96 ?_
            refine lv_i2l hx hb dX12_drift_99 rfl ?_
            obtain ⟨c100_2724, h⟩ := sm_ck h
            refine lv_lrem hx hb dX12_drift_100 c100_2724 ?_
            refine lv_l2i hx hb dX12_drift_101 rfl ?_
            obtain ⟨c102_2725, h⟩ := sm_ck h
            refine sm_iast hx hb hE hJ hP hS (t12_5 ha0) c102_2725 dX12_drift_102 (fun H locs hP hS => ?_)
            obtain ⟨M102_2726, hM, h⟩ := sm_lt h
            rw [← hM] at hP; clear hM
            refine lv_iinc (v := (x7_57_2718 + (1 : Int32))) (lv' := [(7, .int (x7_57_2718 + (1 : Int32))), (2, .long ((z2_57_2717 * (16807 : Int64)) - (z2_57_2717 * (16807 : Int64)) / (2147483647 : Int64) * (2147483647 : Int64))), (0, .ref (adr a0)), (4, .int x4_20_2701), (5, .int s0_42_2709), (6, .int x6_47_2712)]) hx hb dX12_drift_103 hl (k := 5) rfl (congrArg (fun z => x7_57_2718 + z) (by decide)) (by decide) rfl (fun ls hl => ?_)
            refine lv_goto (tgt := 57) hx hb dX12_drift_106 (by decide) ?_
            exact ih57_2721 (((z2_57_2717 * (16807 : Int64)) - (z2_57_2717 * (16807 : Int64)) / (2147483647 : Int64) * (2147483647 : Int64)), (x7_57_2718 + (1 : Int32)), M102_2726) _ _ _ h ⟨hP, hS, lv_sub hl [2, 1, 3, 4, 5, 0] rfl⟩
      refine lv_if_ne (tgt := 38) hx hb dX12_drift_28 (by decide) (fun c28_2727 => ?_) (fun c28_2727 => ?_)
      · rw [if_neg c28_2727] at h
        refine lv_aload_n hx hb dX12_drift_38 rfl (lv_at hl 0 rfl) ?_
        refine sm_get (ci := 12) (C := RX12) (T := TX12) (N := 54) (v := .int (M20_2702 a0 2)) hx hb hts hin12 hown hE hP ha0 rfl rfl 2 (by decide) (hts (.fieldLink RX12 16 "OrderMoverModel" "powerB" "I") (by decide +kernel)) (fun _ h9 => h9) rfl dX12_drift_39 ?_
        exact J42_2710 (M20_2702 a0 2) _ _ _ h ⟨hP, hS, lv_sub hl [0, 1, 2] rfl⟩
      · rw [if_pos c28_2727] at h
        refine lv_aload_n hx hb dX12_drift_31 rfl (lv_at hl 0 rfl) ?_
        refine sm_get (ci := 12) (C := RX12) (T := TX12) (N := 54) (v := .int (M20_2702 a0 1)) hx hb hts hin12 hown hE hP ha0 rfl rfl 1 (by decide) (hts (.fieldLink RX12 13 "OrderMoverModel" "powerA" "I") (by decide +kernel)) (fun _ h9 => h9) rfl dX12_drift_32 ?_
        refine lv_goto (tgt := 42) hx hb dX12_drift_35 (by decide) ?_
        exact J42_2710 (M20_2702 a0 1) _ _ _ h ⟨hP, hS, lv_sub hl [0, 1, 2] rfl⟩
  · rw [if_pos c9_2699] at h
    refine lv_iconst (v := (-1 : Int32)) hx hb dX12_drift_12 (by decide) ?_
    cases h
    exact sm_iret hx hb hr hlocks hP hS dX12_drift_13
set_option maxHeartbeats 4000000 in
set_option maxRecDepth 100000 in
theorem k_X12_drop (l : Launch) (D : va_G) (cA : Nat → ClassId) (adr : Nat → Nat) (hJ : smJ 2 adr) (a0 : Nat) (x1 : Int32) (ha0 : smT 2 a0 12) (M : smM) (v1 : Int32) (M1 : smM) (h : m_X12_drop a0 x1 M = some (v1, M1)) : Met l yX12_drop wsX12_drop ({ frames := 2, cells := 0, slots := 0, locals := 45 }) (smPc D cA 2 adr M [.ref (adr a0), .int x1]) (smQi D cA 2 adr M1 v1) 0 0 (smA 2 adr) := by
  refine Met.ofW (cc := cX12_drop) (maxL := 3) (ret := (some .int)) (by decide) rfl ?_
  intro p e s m args below meth c s₁ B hml hv
  obtain ⟨rfl, hE, hP⟩ := hv
  have hx := B.exec
  have hb := B.bytes
  have hr := B.returns
  have hts := atoms_spec (ws := wsX12_drop) B.pre
  have hown : s.vm.findClass RX12 = some m.cls := findClass_of_methodNamed B.named
  have hlocks := B.notSynchronized
  have hS : va_S (smA 2 adr) s.heap s.heap [] := va_S.rf
  have hP : smP D cA 2 adr M s.heap := hP
  have hl := lv_entry ([.ref (adr a0), .int x1]) (n := 3) (Nat.le_of_ble_eq_true rfl)
  rw [lg_entry_eq]
  generalize (lg_sl ([.ref (adr a0), .int x1]) ++ List.replicate (3 - (lg_sl ([.ref (adr a0), .int x1])).length) Slot.unset).toArray = ls at hl ⊢
  have hl : lv_has ls 3 [(0, .ref (adr a0)), (1, .int x1)] := hl
  unfold m_X12_drop at h
  have hin12 : ∀ w ∈ u_ws RX12 TX12 54, w ∈ wsX12_drop := by decide +kernel
  refine lv_iload_n hx hb dX12_drop_0 rfl (lv_at hl 1 rfl) ?_
  obtain ⟨v1_2728, hc1_2730, h⟩ := sm_bd h
  refine sm_ci (va_runS (As := [.int x1]) (rest := []) ⟨hx, hb, hml, hown, hts⟩ (k_X12_isSlot l D cA adr hJ x1  M v1_2728 hc1_2730) (va_cwS 1 hts gX12_drop_X12_isSlot rfl rfl rfl (by decide +kernel) ⟨Nat.le_of_ble_eq_true rfl, Nat.le_of_ble_eq_true rfl⟩) ⟨smPc_bl, smPc_in [.int x1] hE hP⟩ rfl rfl hl.1 rfl (lv_room (Nat.le_of_ble_eq_true rfl)) dX12_drop_1 ⟨Nat.zero_le _, Nat.zero_le _⟩) hS (fun H locs hP hS => ?_)
  refine lv_if_ne (tgt := 9) hx hb dX12_drop_4 (by decide) (fun c4_2731 => ?_) (fun c4_2731 => ?_)
  · rw [if_neg c4_2731] at h
    refine lv_aload_n hx hb dX12_drop_9 rfl (lv_at hl 0 rfl) ?_
    refine sm_get (ci := 12) (C := RX12) (T := TX12) (N := 54) (v := .ref (adr (a0 + 2))) hx hb hts hin12 hown hE hP ha0 rfl rfl 6 (by decide) (hts (.fieldLink RX12 29 "OrderMoverModel" "kinds" "[I") (by decide +kernel)) (fun _ h9 => h9) rfl dX12_drop_10 ?_
    refine lv_iload_n hx hb dX12_drop_13 rfl (lv_at hl 1 rfl) ?_
    obtain ⟨c14_2732, h⟩ := sm_ck h
    refine sm_iald hx hb hE hP (t12_6 ha0) c14_2732 dX12_drop_14 ?_
    refine lv_istore_n (lv' := [(2, .int (M (a0 + 2) (x1).toNatClampNeg)), (0, .ref (adr a0)), (1, .int x1)]) hx hb dX12_drop_15 rfl hl (by decide) rfl (fun ls hl => ?_)
    refine lv_aload_n hx hb dX12_drop_16 rfl (lv_at hl 1 rfl) ?_
    refine sm_get (ci := 12) (C := RX12) (T := TX12) (N := 54) (v := .ref (adr (a0 + 2))) hx hb hts hin12 hown hE hP ha0 rfl rfl 6 (by decide) (hts (.fieldLink RX12 29 "OrderMoverModel" "kinds" "[I") (by decide +kernel)) (fun _ h9 => h9) rfl dX12_drop_17 ?_
    refine lv_iload_n hx hb dX12_drop_20 rfl (lv_at hl 2 rfl) ?_
    refine lv_iconst (v := (0 : Int32)) hx hb dX12_drop_21 (by decide) ?_
    obtain ⟨c22_2733, h⟩ := sm_ck h
    refine sm_iast hx hb hE hJ hP hS (t12_6 ha0) c22_2733 dX12_drop_22 (fun H locs hP hS => ?_)
    obtain ⟨M22_2734, hM, h⟩ := sm_lt h
    rw [← hM] at hP; clear hM
    refine lv_iload_n hx hb dX12_drop_23 rfl (lv_at hl 0 rfl) ?_
    cases h
    exact sm_iret hx hb hr hlocks hP hS dX12_drop_24
  · rw [if_pos c4_2731] at h
    refine lv_iconst (v := (-1 : Int32)) hx hb dX12_drop_7 (by decide) ?_
    cases h
    exact sm_iret hx hb hr hlocks hP hS dX12_drop_8
set_option maxHeartbeats 4000000 in
set_option maxRecDepth 100000 in
theorem k_X12_isPrime (l : Launch) (D : va_G) (cA : Nat → ClassId) (adr : Nat → Nat) (hJ : smJ 2 adr) (x0 : Int32) (M : smM) (v1 : Int32) (h : m_X12_isPrime x0 M = some v1) : Met l yX12_isPrime wsX12_isPrime ({ frames := 0, cells := 0, slots := 0, locals := 0 }) (smPc D cA 2 adr M [.int x0]) (smQi D cA 2 adr M v1) 0 0 (smA 2 adr) := by
  refine Met.ofW (cc := cX12_isPrime) (maxL := 3) (ret := (some .boolean)) (by decide) rfl ?_
  intro p e s m args below meth c s₁ B hml hv
  obtain ⟨rfl, hE, hP⟩ := hv
  have hx := B.exec
  have hb := B.bytes
  have hr := B.returns
  have hts := atoms_spec (ws := wsX12_isPrime) B.pre
  have hown : s.vm.findClass RX12 = some m.cls := findClass_of_methodNamed B.named
  have hlocks := B.notSynchronized
  have hS : va_S (smA 2 adr) s.heap s.heap [] := va_S.rf
  have hP : smP D cA 2 adr M s.heap := hP
  have hl := lv_entry ([.int x0]) (n := 3) (Nat.le_of_ble_eq_true rfl)
  rw [lg_entry_eq]
  generalize (lg_sl ([.int x0]) ++ List.replicate (3 - (lg_sl ([.int x0])).length) Slot.unset).toArray = ls at hl ⊢
  have hl : lv_has ls 3 [(0, .int x0)] := hl
  unfold m_X12_isPrime at h
  refine lv_iload_n hx hb dX12_isPrime_0 rfl (lv_at hl 0 rfl) ?_
  refine lv_iconst (v := (1 : Int32)) hx hb dX12_isPrime_1 (by decide) ?_
  refine sm_jn (x := v1) (T := fun (q : Int32) => m_X12_isPrime_j10 x0 M q) (P := fun (q : Int32) H locs ls => smP D cA 2 adr M H ∧ va_S (smA 2 adr) s.heap H locs ∧ lv_has ls 3 [(0, .int x0)]) (st := fun (q : Int32) => [.int q]) (pc := 10) ?_ (fun J10_2736 => ?_)
  · intro q H locs ls h hI
    obtain ⟨s0_10_2735, hq⟩ : ∃ y, y = q := ⟨_, rfl⟩; subst hq
    obtain ⟨hP, hS, hl⟩ := hI
    have hP : smP D cA 2 adr M H := hP
    have hl : lv_has ls 3 [(0, .int x0)] := hl
    have h : m_X12_isPrime_j10 x0 M s0_10_2735 = some _ := h
    unfold m_X12_isPrime_j10 at h
    refine W.eq (g2 := F0 m 10 ls [.int s0_10_2735]) rfl ?_
    refine lv_istore_n (lv' := [(1, .int s0_10_2735), (0, .int x0)]) hx hb dX12_isPrime_10 rfl hl (by decide) rfl (fun ls hl => ?_)
    refine lv_iconst (v := (2 : Int32)) hx hb dX12_isPrime_11 (by decide) ?_
    refine lv_istore_n (lv' := [(2, .int (2 : Int32)), (1, .int s0_10_2735), (0, .int x0)]) hx hb dX12_isPrime_12 rfl hl (by decide) rfl (fun ls hl => ?_)
    refine sm_lp (b := fun rc q => m_X12_isPrime_b13 x0 M rc q.1 q.2) (P := fun (q : Int32 × Int32) H locs ls => smP D cA 2 adr M H ∧ va_S (smA 2 adr) s.heap H locs ∧ lv_has ls 3 [(0, .int x0), (1, .int q.1), (2, .int q.2)]) (pc := 13) ?_ _ _ _ _ _ h ⟨hP, hS, lv_sub hl [2, 1, 0] rfl⟩
    intro rc13_2739 ih13_2740 q H locs ls h hI
    obtain ⟨x1_13_2737, x2_13_2738⟩ := q
    obtain ⟨hP, hS, hl⟩ := hI
    have hP : smP D cA 2 adr M H := hP
    have hl : lv_has ls 3 [(0, .int x0), (1, .int x1_13_2737), (2, .int x2_13_2738)] := hl
    have h : m_X12_isPrime_b13 x0 M rc13_2739 x1_13_2737 x2_13_2738 = some _ := h
    unfold m_X12_isPrime_b13 at h
    refine lv_iload_n hx hb dX12_isPrime_13 rfl (lv_at hl 2 rfl) ?_
    refine lv_iload_n hx hb dX12_isPrime_14 rfl (lv_at hl 0 rfl) ?_
    refine lv_icmp_ge (tgt := 40) hx hb dX12_isPrime_15 (by decide) (fun c15_2741 => ?_) (fun c15_2741 => ?_)
    · rw [if_pos c15_2741] at h
      refine lv_iload_n hx hb dX12_isPrime_40 rfl (lv_at hl 1 rfl) ?_
      cases h
      exact sm_zret (by first | rfl | decide) hx hb hr hlocks hP hS dX12_isPrime_41
    · rw [if_neg c15_2741] at h
      refine lv_iload_n hx hb dX12_isPrime_18 rfl (lv_at hl 1 rfl) ?_
      refine lv_if_eq (tgt := 32) hx hb dX12_isPrime_19 (by decide) (fun c19_2742 => ?_) (fun c19_2742 => ?_)
      · rw [if_pos c19_2742] at h
        refine lv_iconst (v := (0 : Int32)) hx hb dX12_isPrime_32 (by decide) ?_
        refine lv_istore_n (lv' := [(1, .int (0 : Int32)), (0, .int x0), (2, .int x2_13_2738)]) hx hb dX12_isPrime_33 rfl hl (by decide) rfl (fun ls hl => ?_)
        refine lv_iinc (v := (x2_13_2738 + (1 : Int32))) (lv' := [(2, .int (x2_13_2738 + (1 : Int32))), (1, .int (0 : Int32)), (0, .int x0)]) hx hb dX12_isPrime_34 hl (k := 2) rfl (congrArg (fun z => x2_13_2738 + z) (by decide)) (by decide) rfl (fun ls hl => ?_)
        refine lv_goto (tgt := 13) hx hb dX12_isPrime_37 (by decide) ?_
        exact ih13_2740 ((0 : Int32), (x2_13_2738 + (1 : Int32))) _ _ _ h ⟨hP, hS, lv_sub hl [2, 1, 0] rfl⟩
      · rw [if_neg c19_2742] at h
        refine lv_iload_n hx hb dX12_isPrime_22 rfl (lv_at hl 0 rfl) ?_
        refine lv_iload_n hx hb dX12_isPrime_23 rfl (lv_at hl 2 rfl) ?_
        obtain ⟨c24_2743, h⟩ := sm_ck h
        refine lv_irem hx hb dX12_isPrime_24 c24_2743 ?_
        refine lv_if_eq (tgt := 32) hx hb dX12_isPrime_25 (by decide) (fun c25_2744 => ?_) (fun c25_2744 => ?_)
        · rw [if_pos c25_2744] at h
          refine lv_iconst (v := (0 : Int32)) hx hb dX12_isPrime_32 (by decide) ?_
          refine lv_istore_n (lv' := [(1, .int (0 : Int32)), (0, .int x0), (2, .int x2_13_2738)]) hx hb dX12_isPrime_33 rfl hl (by decide) rfl (fun ls hl => ?_)
          refine lv_iinc (v := (x2_13_2738 + (1 : Int32))) (lv' := [(2, .int (x2_13_2738 + (1 : Int32))), (1, .int (0 : Int32)), (0, .int x0)]) hx hb dX12_isPrime_34 hl (k := 2) rfl (congrArg (fun z => x2_13_2738 + z) (by decide)) (by decide) rfl (fun ls hl => ?_)
          refine lv_goto (tgt := 13) hx hb dX12_isPrime_37 (by decide) ?_
          exact ih13_2740 ((0 : Int32), (x2_13_2738 + (1 : Int32))) _ _ _ h ⟨hP, hS, lv_sub hl [2, 1, 0] rfl⟩
        · rw [if_neg c25_2744] at h
          refine lv_iconst (v := (1 : Int32)) hx hb dX12_isPrime_28 (by decide) ?_
          refine lv_goto (tgt := 33) hx hb dX12_isPrime_29 (by decide) ?_
          refine lv_istore_n (lv' := [(1, .int (1 : Int32)), (0, .int x0), (2, .int x2_13_2738)]) hx hb dX12_isPrime_33 rfl hl (by decide) rfl (fun ls hl => ?_)
          refine lv_iinc (v := (x2_13_2738 + (1 : Int32))) (lv' := [(2, .int (x2_13_2738 + (1 : Int32))), (1, .int (1 : Int32)), (0, .int x0)]) hx hb dX12_isPrime_34 hl (k := 2) rfl (congrArg (fun z => x2_13_2738 + z) (by decide)) (by decide) rfl (fun ls hl => ?_)
          refine lv_goto (tgt := 13) hx hb dX12_isPrime_37 (by decide) ?_
          exact ih13_2740 ((1 : Int32), (x2_13_2738 + (1 : Int32))) _ _ _ h ⟨hP, hS, lv_sub hl [2, 1, 0] rfl⟩
  refine lv_icmp_le (tgt := 9) hx hb dX12_isPrime_2 (by decide) (fun c2_2745 => ?_) (fun c2_2745 => ?_)
  · rw [if_pos c2_2745] at h
    refine lv_iconst (v := (0 : Int32)) hx hb dX12_isPrime_9 (by decide) ?_
    exact J10_2736 (0 : Int32) _ _ _ h ⟨hP, hS, lv_sub hl [0] rfl⟩
  · rw [if_neg c2_2745] at h
    refine lv_iconst (v := (1 : Int32)) hx hb dX12_isPrime_5 (by decide) ?_
    refine lv_goto (tgt := 10) hx hb dX12_isPrime_6 (by decide) ?_
    exact J10_2736 (1 : Int32) _ _ _ h ⟨hP, hS, lv_sub hl [0] rfl⟩
set_option maxHeartbeats 4000000 in
set_option maxRecDepth 100000 in
theorem k_X12_field (l : Launch) (D : va_G) (cA : Nat → ClassId) (adr : Nat → Nat) (hJ : smJ 2 adr) (a0 : Nat) (x1 : Int32) (ha0 : smT 2 a0 12) (M : smM) (v1 : Int32) (M1 : smM) (h : m_X12_field a0 x1 M = some (v1, M1)) : Met l yX12_field wsX12_field ({ frames := 2, cells := 0, slots := 0, locals := 45 }) (smPc D cA 2 adr M [.ref (adr a0), .int x1]) (smQi D cA 2 adr M1 v1) 0 0 (smA 2 adr) := by
  refine Met.ofW (cc := cX12_field) (maxL := 3) (ret := (some .int)) (by decide) rfl ?_
  intro p e s m args below meth c s₁ B hml hv
  obtain ⟨rfl, hE, hP⟩ := hv
  have hx := B.exec
  have hb := B.bytes
  have hr := B.returns
  have hts := atoms_spec (ws := wsX12_field) B.pre
  have hown : s.vm.findClass RX12 = some m.cls := findClass_of_methodNamed B.named
  have hlocks := B.notSynchronized
  have hS : va_S (smA 2 adr) s.heap s.heap [] := va_S.rf
  have hP : smP D cA 2 adr M s.heap := hP
  have hl := lv_entry ([.ref (adr a0), .int x1]) (n := 3) (Nat.le_of_ble_eq_true rfl)
  rw [lg_entry_eq]
  generalize (lg_sl ([.ref (adr a0), .int x1]) ++ List.replicate (3 - (lg_sl ([.ref (adr a0), .int x1])).length) Slot.unset).toArray = ls at hl ⊢
  have hl : lv_has ls 3 [(0, .ref (adr a0)), (1, .int x1)] := hl
  unfold m_X12_field at h
  have hin12 : ∀ w ∈ u_ws RX12 TX12 54, w ∈ wsX12_field := by decide +kernel
  refine lv_iload_n hx hb dX12_field_0 rfl (lv_at hl 1 rfl) ?_
  refine lv_i2l hx hb dX12_field_1 rfl ?_
  refine lv_ldc2 (v := (2 : Int64)) hx hb hown (hts (.constantLong RX12 151 (2)) (by decide +kernel)) dX12_field_2 ?_
  refine lv_ldc2 (v := (97 : Int64)) hx hb hown (hts (.constantLong RX12 153 (97)) (by decide +kernel)) dX12_field_5 ?_
  obtain ⟨v8_2746, hc8_2748, h⟩ := sm_bd h
  refine sm_ci (va_runS (As := [.long ((x1).toInt64), .long (2 : Int64), .long (97 : Int64)]) (rest := []) ⟨hx, hb, hml, hown, hts⟩ (k_X12_in l D cA adr hJ ((x1).toInt64) (2 : Int64) (97 : Int64)  M v8_2746 hc8_2748) (va_cwS 3 hts gX12_field_X12_in rfl rfl rfl (by decide +kernel) ⟨Nat.le_of_ble_eq_true rfl, Nat.le_of_ble_eq_true rfl⟩) ⟨smPc_bl, smPc_in [.long ((x1).toInt64), .long (2 : Int64), .long (97 : Int64)] hE hP⟩ rfl rfl hl.1 rfl (lv_room (Nat.le_of_ble_eq_true rfl)) dX12_field_8 ⟨Nat.zero_le _, Nat.zero_le _⟩) hS (fun H locs hP hS => ?_)
  refine lv_if_eq (tgt := 21) hx hb dX12_field_11 (by decide) (fun c11_2749 => ?_) (fun c11_2749 => ?_)
  · rw [if_pos c11_2749] at h
    refine lv_iconst (v := (-1 : Int32)) hx hb dX12_field_21 (by decide) ?_
    cases h
    exact sm_iret hx hb hr hlocks hP hS dX12_field_22
  · rw [if_neg c11_2749] at h
    refine lv_iload_n hx hb dX12_field_14 rfl (lv_at hl 1 rfl) ?_
    obtain ⟨v15_2750, hc15_2752, h⟩ := sm_bd h
    refine sm_ci (va_runS (As := [.int x1]) (rest := []) ⟨hx, hb, hml, hown, hts⟩ (k_X12_isPrime l D cA adr hJ x1  M v15_2750 hc15_2752) (va_cwS 1 hts gX12_field_X12_isPrime rfl rfl rfl (by decide +kernel) ⟨Nat.le_of_ble_eq_true rfl, Nat.le_of_ble_eq_true rfl⟩) ⟨smPc_bl, smPc_in [.int x1] hE hP⟩ rfl rfl hl.1 rfl (lv_room (Nat.le_of_ble_eq_true rfl)) dX12_field_15 ⟨Nat.zero_le _, Nat.zero_le _⟩) hS (fun H locs hP hS => ?_)
    refine lv_if_ne (tgt := 23) hx hb dX12_field_18 (by decide) (fun c18_2753 => ?_) (fun c18_2753 => ?_)
    · rw [if_neg c18_2753] at h
      refine lv_aload_n hx hb dX12_field_23 rfl (lv_at hl 0 rfl) ?_
      refine sm_get (ci := 12) (C := RX12) (T := TX12) (N := 54) (v := .int (M a0 0)) hx hb hts hin12 hown hE hP ha0 rfl rfl 0 (by decide) (hts (.fieldLink RX12 7 "OrderMoverModel" "p" "I") (by decide +kernel)) (fun _ h9 => h9) rfl dX12_field_24 ?_
      refine lv_istore_n (lv' := [(2, .int (M a0 0)), (0, .ref (adr a0)), (1, .int x1)]) hx hb dX12_field_27 rfl hl (by decide) rfl (fun ls hl => ?_)
      refine lv_aload_n hx hb dX12_field_28 rfl (lv_at hl 1 rfl) ?_
      refine lv_iload_n hx hb dX12_field_29 rfl (lv_at hl 2 rfl) ?_
      obtain ⟨M30_2755, hc30_2756, h⟩ := sm_bd h
      refine sm_cv (va_runV (As := [.int x1]) (rest := []) ⟨hx, hb, hml, hown, hts⟩ (k_X12_becomesField l D cA adr hJ a0 x1 ha0 M M30_2755 hc30_2756) (cwV 1 hts gX12_field_X12_becomesField rfl rfl rfl (by decide +kernel) ⟨Nat.le_of_ble_eq_true rfl, Nat.le_of_ble_eq_true rfl⟩) ⟨smPc_bl, smRv hE hP ha0 rfl (ci := 12) (q := (RX12, TX12, 54)) rfl, smPc_in [.ref (adr a0), .int x1] hE hP⟩ rfl rfl hl.1 rfl (lv_room (Nat.le_of_ble_eq_true rfl)) dX12_field_30 ⟨Nat.zero_le _, Nat.zero_le _⟩) hS (fun H locs hP hS => ?_)
      refine lv_iload_n hx hb dX12_field_33 rfl (lv_at hl 0 rfl) ?_
      cases h
      exact sm_iret hx hb hr hlocks hP hS dX12_field_34
    · rw [if_pos c18_2753] at h
      refine lv_iconst (v := (-1 : Int32)) hx hb dX12_field_21 (by decide) ?_
      cases h
      exact sm_iret hx hb hr hlocks hP hS dX12_field_22
set_option maxHeartbeats 4000000 in
set_option maxRecDepth 100000 in
theorem k_X12_isCoefficient (l : Launch) (D : va_G) (cA : Nat → ClassId) (adr : Nat → Nat) (hJ : smJ 2 adr) (a0 : Nat) (x1 : Int32) (x2 : Int32) (x3 : Int32) (ha0 : smT 2 a0 12) (M : smM) (v1 : Int32) (h : m_X12_isCoefficient a0 x1 x2 x3 M = some v1) : Met l yX12_isCoefficient wsX12_isCoefficient ({ frames := 1, cells := 0, slots := 0, locals := 25 }) (smPc D cA 2 adr M [.ref (adr a0), .int x1, .int x2, .int x3]) (smQi D cA 2 adr M v1) 0 0 (smA 2 adr) := by
  refine Met.ofW (cc := cX12_isCoefficient) (maxL := 4) (ret := (some .boolean)) (by decide) rfl ?_
  intro p e s m args below meth c s₁ B hml hv
  obtain ⟨rfl, hE, hP⟩ := hv
  have hx := B.exec
  have hb := B.bytes
  have hr := B.returns
  have hts := atoms_spec (ws := wsX12_isCoefficient) B.pre
  have hown : s.vm.findClass RX12 = some m.cls := findClass_of_methodNamed B.named
  have hlocks := B.notSynchronized
  have hS : va_S (smA 2 adr) s.heap s.heap [] := va_S.rf
  have hP : smP D cA 2 adr M s.heap := hP
  have hl := lv_entry ([.ref (adr a0), .int x1, .int x2, .int x3]) (n := 4) (Nat.le_of_ble_eq_true rfl)
  rw [lg_entry_eq]
  generalize (lg_sl ([.ref (adr a0), .int x1, .int x2, .int x3]) ++ List.replicate (4 - (lg_sl ([.ref (adr a0), .int x1, .int x2, .int x3])).length) Slot.unset).toArray = ls at hl ⊢
  have hl : lv_has ls 4 [(0, .ref (adr a0)), (1, .int x1), (2, .int x2), (3, .int x3)] := hl
  unfold m_X12_isCoefficient at h
  have hin12 : ∀ w ∈ u_ws RX12 TX12 54, w ∈ wsX12_isCoefficient := by decide +kernel
  refine lv_iload_n hx hb dX12_isCoefficient_0 rfl (lv_at hl 1 rfl) ?_
  refine lv_i2l hx hb dX12_isCoefficient_1 rfl ?_
  refine lv_lconst (v := (0 : Int64)) hx hb dX12_isCoefficient_2 (by decide) ?_
  refine lv_lconst (v := (1 : Int64)) hx hb dX12_isCoefficient_3 (by decide) ?_
  obtain ⟨v4_2757, hc4_2759, h⟩ := sm_bd h
  refine sm_ci (va_runS (As := [.long ((x1).toInt64), .long (0 : Int64), .long (1 : Int64)]) (rest := []) ⟨hx, hb, hml, hown, hts⟩ (k_X12_in l D cA adr hJ ((x1).toInt64) (0 : Int64) (1 : Int64)  M v4_2757 hc4_2759) (va_cwS 3 hts gX12_isCoefficient_X12_in rfl rfl rfl (by decide +kernel) ⟨Nat.le_of_ble_eq_true rfl, Nat.le_of_ble_eq_true rfl⟩) ⟨smPc_bl, smPc_in [.long ((x1).toInt64), .long (0 : Int64), .long (1 : Int64)] hE hP⟩ rfl rfl hl.1 rfl (lv_room (Nat.le_of_ble_eq_true rfl)) dX12_isCoefficient_4 ⟨Nat.zero_le _, Nat.zero_le _⟩) hS (fun H locs hP hS => ?_)
  refine lv_if_eq (tgt := 47) hx hb dX12_isCoefficient_7 (by decide) (fun c7_2760 => ?_) (fun c7_2760 => ?_)
  · rw [if_pos c7_2760] at h
    refine lv_iconst (v := (0 : Int32)) hx hb dX12_isCoefficient_47 (by decide) ?_
    cases h
    exact sm_zret (by first | rfl | decide) hx hb hr hlocks hP hS dX12_isCoefficient_48
  · rw [if_neg c7_2760] at h
    refine lv_iload_n hx hb dX12_isCoefficient_10 rfl (lv_at hl 2 rfl) ?_
    refine lv_if_lt (tgt := 47) hx hb dX12_isCoefficient_11 (by decide) (fun c11_2761 => ?_) (fun c11_2761 => ?_)
    · rw [if_pos c11_2761] at h
      refine lv_iconst (v := (0 : Int32)) hx hb dX12_isCoefficient_47 (by decide) ?_
      cases h
      exact sm_zret (by first | rfl | decide) hx hb hr hlocks hP hS dX12_isCoefficient_48
    · rw [if_neg c11_2761] at h
      refine lv_iload_n hx hb dX12_isCoefficient_14 rfl (lv_at hl 3 rfl) ?_
      refine lv_if_lt (tgt := 47) hx hb dX12_isCoefficient_15 (by decide) (fun c15_2762 => ?_) (fun c15_2762 => ?_)
      · rw [if_pos c15_2762] at h
        refine lv_iconst (v := (0 : Int32)) hx hb dX12_isCoefficient_47 (by decide) ?_
        cases h
        exact sm_zret (by first | rfl | decide) hx hb hr hlocks hP hS dX12_isCoefficient_48
      · rw [if_neg c15_2762] at h
        refine lv_iload_n hx hb dX12_isCoefficient_18 rfl (lv_at hl 2 rfl) ?_
        refine lv_i2l hx hb dX12_isCoefficient_19 rfl ?_
        refine lv_iload_n hx hb dX12_isCoefficient_20 rfl (lv_at hl 3 rfl) ?_
        refine lv_i2l hx hb dX12_isCoefficient_21 rfl ?_
        refine lv_ladd hx hb dX12_isCoefficient_22 ?_
        refine lv_iload_n hx hb dX12_isCoefficient_23 rfl (lv_at hl 1 rfl) ?_
        refine lv_if_ne (tgt := 34) hx hb dX12_isCoefficient_24 (by decide) (fun c24_2763 => ?_) (fun c24_2763 => ?_)
        · rw [if_neg c24_2763] at h
          refine lv_aload_n hx hb dX12_isCoefficient_34 rfl (lv_at hl 0 rfl) ?_
          refine sm_get (ci := 12) (C := RX12) (T := TX12) (N := 54) (v := .int (M a0 2)) hx hb hts hin12 hown hE hP ha0 rfl rfl 2 (by decide) (hts (.fieldLink RX12 16 "OrderMoverModel" "powerB" "I") (by decide +kernel)) (fun _ h9 => h9) rfl dX12_isCoefficient_35 ?_
          refine lv_i2l hx hb dX12_isCoefficient_38 rfl ?_
          refine W.lcmp hx hb dX12_isCoefficient_39 ?_
          refine lv_if_ge (tgt := 47) hx hb dX12_isCoefficient_40 (by decide) (fun c40_2764 => ?_) (fun c40_2764 => ?_)
          · rw [if_pos c40_2764] at h
            refine lv_iconst (v := (0 : Int32)) hx hb dX12_isCoefficient_47 (by decide) ?_
            cases h
            exact sm_zret (by first | rfl | decide) hx hb hr hlocks hP hS dX12_isCoefficient_48
          · rw [if_neg c40_2764] at h
            refine lv_iconst (v := (1 : Int32)) hx hb dX12_isCoefficient_43 (by decide) ?_
            refine lv_goto (tgt := 48) hx hb dX12_isCoefficient_44 (by decide) ?_
            cases h
            exact sm_zret (by first | rfl | decide) hx hb hr hlocks hP hS dX12_isCoefficient_48
        · rw [if_pos c24_2763] at h
          refine lv_aload_n hx hb dX12_isCoefficient_27 rfl (lv_at hl 0 rfl) ?_
          refine sm_get (ci := 12) (C := RX12) (T := TX12) (N := 54) (v := .int (M a0 1)) hx hb hts hin12 hown hE hP ha0 rfl rfl 1 (by decide) (hts (.fieldLink RX12 13 "OrderMoverModel" "powerA" "I") (by decide +kernel)) (fun _ h9 => h9) rfl dX12_isCoefficient_28 ?_
          refine lv_goto (tgt := 38) hx hb dX12_isCoefficient_31 (by decide) ?_
          refine lv_i2l hx hb dX12_isCoefficient_38 rfl ?_
          refine W.lcmp hx hb dX12_isCoefficient_39 ?_
          refine lv_if_ge (tgt := 47) hx hb dX12_isCoefficient_40 (by decide) (fun c40_2765 => ?_) (fun c40_2765 => ?_)
          · rw [if_pos c40_2765] at h
            refine lv_iconst (v := (0 : Int32)) hx hb dX12_isCoefficient_47 (by decide) ?_
            cases h
            exact sm_zret (by first | rfl | decide) hx hb hr hlocks hP hS dX12_isCoefficient_48
          · rw [if_neg c40_2765] at h
            refine lv_iconst (v := (1 : Int32)) hx hb dX12_isCoefficient_43 (by decide) ?_
            refine lv_goto (tgt := 48) hx hb dX12_isCoefficient_44 (by decide) ?_
            cases h
            exact sm_zret (by first | rfl | decide) hx hb hr hlocks hP hS dX12_isCoefficient_48
set_option maxHeartbeats 4000000 in
set_option maxRecDepth 100000 in
theorem k_X12_get (l : Launch) (D : va_G) (cA : Nat → ClassId) (adr : Nat → Nat) (hJ : smJ 2 adr) (a0 : Nat) (x1 : Int32) (x2 : Int32) (x3 : Int32) (ha0 : smT 2 a0 12) (M : smM) (v1 : Int32) (h : m_X12_get a0 x1 x2 x3 M = some v1) : Met l yX12_get wsX12_get ({ frames := 2, cells := 0, slots := 0, locals := 48 }) (smPc D cA 2 adr M [.ref (adr a0), .int x1, .int x2, .int x3]) (smQi D cA 2 adr M v1) 0 0 (smA 2 adr) := by
  refine Met.ofW (cc := cX12_get) (maxL := 4) (ret := (some .int)) (by decide) rfl ?_
  intro p e s m args below meth c s₁ B hml hv
  obtain ⟨rfl, hE, hP⟩ := hv
  have hx := B.exec
  have hb := B.bytes
  have hr := B.returns
  have hts := atoms_spec (ws := wsX12_get) B.pre
  have hown : s.vm.findClass RX12 = some m.cls := findClass_of_methodNamed B.named
  have hlocks := B.notSynchronized
  have hS : va_S (smA 2 adr) s.heap s.heap [] := va_S.rf
  have hP : smP D cA 2 adr M s.heap := hP
  have hl := lv_entry ([.ref (adr a0), .int x1, .int x2, .int x3]) (n := 4) (Nat.le_of_ble_eq_true rfl)
  rw [lg_entry_eq]
  generalize (lg_sl ([.ref (adr a0), .int x1, .int x2, .int x3]) ++ List.replicate (4 - (lg_sl ([.ref (adr a0), .int x1, .int x2, .int x3])).length) Slot.unset).toArray = ls at hl ⊢
  have hl : lv_has ls 4 [(0, .ref (adr a0)), (1, .int x1), (2, .int x2), (3, .int x3)] := hl
  unfold m_X12_get at h
  have hin12 : ∀ w ∈ u_ws RX12 TX12 54, w ∈ wsX12_get := by decide +kernel
  refine lv_aload_n hx hb dX12_get_0 rfl (lv_at hl 0 rfl) ?_
  refine lv_iload_n hx hb dX12_get_1 rfl (lv_at hl 1 rfl) ?_
  refine lv_iload_n hx hb dX12_get_2 rfl (lv_at hl 2 rfl) ?_
  refine lv_iload_n hx hb dX12_get_3 rfl (lv_at hl 3 rfl) ?_
  obtain ⟨v4_2766, hc4_2768, h⟩ := sm_bd h
  refine sm_ci (va_runV (As := [.int x1, .int x2, .int x3]) (rest := []) ⟨hx, hb, hml, hown, hts⟩ (k_X12_isCoefficient l D cA adr hJ a0 x1 x2 x3 ha0 M v4_2766 hc4_2768) (cwV 3 hts gX12_get_X12_isCoefficient rfl rfl rfl (by decide +kernel) ⟨Nat.le_of_ble_eq_true rfl, Nat.le_of_ble_eq_true rfl⟩) ⟨smPc_bl, smRv hE hP ha0 rfl (ci := 12) (q := (RX12, TX12, 54)) rfl, smPc_in [.ref (adr a0), .int x1, .int x2, .int x3] hE hP⟩ rfl rfl hl.1 rfl (lv_room (Nat.le_of_ble_eq_true rfl)) dX12_get_4 ⟨Nat.zero_le _, Nat.zero_le _⟩) hS (fun H locs hP hS => ?_)
  refine lv_if_eq (tgt := 28) hx hb dX12_get_7 (by decide) (fun c7_2769 => ?_) (fun c7_2769 => ?_)
  · rw [if_pos c7_2769] at h
    refine lv_iconst (v := (-1 : Int32)) hx hb dX12_get_28 (by decide) ?_
    cases h
    exact sm_iret hx hb hr hlocks hP hS dX12_get_29
  · rw [if_neg c7_2769] at h
    refine lv_aload_n hx hb dX12_get_10 rfl (lv_at hl 0 rfl) ?_
    refine sm_get (ci := 12) (C := RX12) (T := TX12) (N := 54) (v := .ref (adr (a0 + 1))) hx hb hts hin12 hown hE hP ha0 rfl rfl 5 (by decide) (hts (.fieldLink RX12 25 "OrderMoverModel" "coefficients" "[I") (by decide +kernel)) (fun _ h9 => h9) rfl dX12_get_11 ?_
    refine lv_bipush (v := (9 : Int32)) hx hb dX12_get_14 (by decide) ?_
    refine lv_iload_n hx hb dX12_get_16 rfl (lv_at hl 1 rfl) ?_
    refine lv_imul hx hb dX12_get_17 ?_
    refine lv_iconst (v := (3 : Int32)) hx hb dX12_get_18 (by decide) ?_
    refine lv_iload_n hx hb dX12_get_19 rfl (lv_at hl 2 rfl) ?_
    refine lv_imul hx hb dX12_get_20 ?_
    refine lv_iadd hx hb dX12_get_21 ?_
    refine lv_iload_n hx hb dX12_get_22 rfl (lv_at hl 3 rfl) ?_
    refine lv_iadd hx hb dX12_get_23 ?_
    obtain ⟨c24_2770, h⟩ := sm_ck h
    refine sm_iald hx hb hE hP (t12_5 ha0) c24_2770 dX12_get_24 ?_
    refine lv_goto (tgt := 29) hx hb dX12_get_25 (by decide) ?_
    cases h
    exact sm_iret hx hb hr hlocks hP hS dX12_get_29
set_option maxHeartbeats 4000000 in
set_option maxRecDepth 100000 in
theorem k_X12_goBack (l : Launch) (D : va_G) (cA : Nat → ClassId) (adr : Nat → Nat) (hJ : smJ 2 adr) (a0 : Nat) (x1 : Int32) (ha0 : smT 2 a0 12) (M : smM) (v1 : Int32) (M1 : smM) (h : m_X12_goBack a0 x1 M = some (v1, M1)) : Met l yX12_goBack wsX12_goBack ({ frames := 2, cells := 0, slots := 0, locals := 45 }) (smPc D cA 2 adr M [.ref (adr a0), .int x1]) (smQi D cA 2 adr M1 v1) 0 0 (smA 2 adr) := by
  refine Met.ofW (cc := cX12_goBack) (maxL := 4) (ret := (some .int)) (by decide) rfl ?_
  intro p e s m args below meth c s₁ B hml hv
  obtain ⟨rfl, hE, hP⟩ := hv
  have hx := B.exec
  have hb := B.bytes
  have hr := B.returns
  have hts := atoms_spec (ws := wsX12_goBack) B.pre
  have hown : s.vm.findClass RX12 = some m.cls := findClass_of_methodNamed B.named
  have hlocks := B.notSynchronized
  have hS : va_S (smA 2 adr) s.heap s.heap [] := va_S.rf
  have hP : smP D cA 2 adr M s.heap := hP
  have hl := lv_entry ([.ref (adr a0), .int x1]) (n := 4) (Nat.le_of_ble_eq_true rfl)
  rw [lg_entry_eq]
  generalize (lg_sl ([.ref (adr a0), .int x1]) ++ List.replicate (4 - (lg_sl ([.ref (adr a0), .int x1])).length) Slot.unset).toArray = ls at hl ⊢
  have hl : lv_has ls 4 [(0, .ref (adr a0)), (1, .int x1)] := hl
  unfold m_X12_goBack at h
  have hin12 : ∀ w ∈ u_ws RX12 TX12 54, w ∈ wsX12_goBack := by decide +kernel
  refine lv_iload_n hx hb dX12_goBack_0 rfl (lv_at hl 1 rfl) ?_
  refine lv_i2l hx hb dX12_goBack_1 rfl ?_
  refine lv_lconst (v := (0 : Int64)) hx hb dX12_goBack_2 (by decide) ?_
  refine lv_lconst (v := (1 : Int64)) hx hb dX12_goBack_3 (by decide) ?_
  obtain ⟨v4_2771, hc4_2773, h⟩ := sm_bd h
  refine sm_ci (va_runS (As := [.long ((x1).toInt64), .long (0 : Int64), .long (1 : Int64)]) (rest := []) ⟨hx, hb, hml, hown, hts⟩ (k_X12_in l D cA adr hJ ((x1).toInt64) (0 : Int64) (1 : Int64)  M v4_2771 hc4_2773) (va_cwS 3 hts gX12_goBack_X12_in rfl rfl rfl (by decide +kernel) ⟨Nat.le_of_ble_eq_true rfl, Nat.le_of_ble_eq_true rfl⟩) ⟨smPc_bl, smPc_in [.long ((x1).toInt64), .long (0 : Int64), .long (1 : Int64)] hE hP⟩ rfl rfl hl.1 rfl (lv_room (Nat.le_of_ble_eq_true rfl)) dX12_goBack_4 ⟨Nat.zero_le _, Nat.zero_le _⟩) hS (fun H locs hP hS => ?_)
  refine lv_if_ne (tgt := 12) hx hb dX12_goBack_7 (by decide) (fun c7_2774 => ?_) (fun c7_2774 => ?_)
  · rw [if_neg c7_2774] at h
    refine lv_aload_n hx hb dX12_goBack_12 rfl (lv_at hl 0 rfl) ?_
    refine sm_get (ci := 12) (C := RX12) (T := TX12) (N := 54) (v := .ref (adr (a0 + 14))) hx hb hts hin12 hown hE hP ha0 rfl rfl 18 (by decide) (hts (.fieldLink RX12 65 "OrderMoverModel" "isKept" "[Z") (by decide +kernel)) (fun _ h9 => h9) rfl dX12_goBack_13 ?_
    refine lv_iload_n hx hb dX12_goBack_16 rfl (lv_at hl 1 rfl) ?_
    obtain ⟨c17_2775, h⟩ := sm_ck h
    refine sm_zald hx hb hE hP (t12_18 ha0) c17_2775 dX12_goBack_17 ?_
    refine lv_if_ne (tgt := 24) hx hb dX12_goBack_18 (by decide) (fun c18_2776 => ?_) (fun c18_2776 => ?_)
    · rw [if_neg c18_2776] at h
      refine lv_bipush (v := (23 : Int32)) hx hb dX12_goBack_24 (by decide) ?_
      refine lv_iload_n hx hb dX12_goBack_26 rfl (lv_at hl 1 rfl) ?_
      refine lv_imul hx hb dX12_goBack_27 ?_
      refine lv_istore_n (lv' := [(2, .int ((23 : Int32) * x1)), (0, .ref (adr a0)), (1, .int x1)]) hx hb dX12_goBack_28 rfl hl (by decide) rfl (fun ls hl => ?_)
      refine lv_aload_n hx hb dX12_goBack_29 rfl (lv_at hl 1 rfl) ?_
      refine lv_aload_n hx hb dX12_goBack_30 rfl (lv_at hl 1 rfl) ?_
      refine sm_get (ci := 12) (C := RX12) (T := TX12) (N := 54) (v := .ref (adr (a0 + 13))) hx hb hts hin12 hown hE hP ha0 rfl rfl 17 (by decide) (hts (.fieldLink RX12 62 "OrderMoverModel" "images" "[I") (by decide +kernel)) (fun _ h9 => h9) rfl dX12_goBack_31 ?_
      refine lv_iload_n hx hb dX12_goBack_34 rfl (lv_at hl 0 rfl) ?_
      obtain ⟨c35_2777, h⟩ := sm_ck h
      refine sm_iald hx hb hE hP (t12_17 ha0) c35_2777 dX12_goBack_35 ?_
      obtain ⟨M36_2779, hc36_2780, h⟩ := sm_bd h
      refine sm_cv (va_runV (As := [.int (M (a0 + 13) (((23 : Int32) * x1)).toNatClampNeg)]) (rest := []) ⟨hx, hb, hml, hown, hts⟩ (k_X12_becomesField l D cA adr hJ a0 (M (a0 + 13) (((23 : Int32) * x1)).toNatClampNeg) ha0 M M36_2779 hc36_2780) (cwV 1 hts gX12_goBack_X12_becomesField rfl rfl rfl (by decide +kernel) ⟨Nat.le_of_ble_eq_true rfl, Nat.le_of_ble_eq_true rfl⟩) ⟨smPc_bl, smRv hE hP ha0 rfl (ci := 12) (q := (RX12, TX12, 54)) rfl, smPc_in [.ref (adr a0), .int (M (a0 + 13) (((23 : Int32) * x1)).toNatClampNeg)] hE hP⟩ rfl rfl hl.1 rfl (lv_room (Nat.le_of_ble_eq_true rfl)) dX12_goBack_36 ⟨Nat.zero_le _, Nat.zero_le _⟩) hS (fun H locs hP hS => ?_)
      refine lv_aload_n hx hb dX12_goBack_39 rfl (lv_at hl 1 rfl) ?_
      refine lv_aload_n hx hb dX12_goBack_40 rfl (lv_at hl 1 rfl) ?_
      refine sm_get (ci := 12) (C := RX12) (T := TX12) (N := 54) (v := .ref (adr (a0 + 13))) hx hb hts hin12 hown hE hP ha0 rfl rfl 17 (by decide) (hts (.fieldLink RX12 62 "OrderMoverModel" "images" "[I") (by decide +kernel)) (fun _ h9 => h9) rfl dX12_goBack_41 ?_
      refine lv_iload_n hx hb dX12_goBack_44 rfl (lv_at hl 0 rfl) ?_
      refine lv_iconst (v := (1 : Int32)) hx hb dX12_goBack_45 (by decide) ?_
      refine lv_iadd hx hb dX12_goBack_46 ?_
      obtain ⟨c47_2781, h⟩ := sm_ck h
      refine sm_iald hx hb hE hP (t12_17 ha0) c47_2781 dX12_goBack_47 ?_
      refine sm_put (ci := 12) (C := RX12) (T := TX12) (N := 54) (ty := .int) hx hb hts hin12 tyX12 tyX12_ok nmX12 hown hE hJ hP hS ha0 rfl rfl 1 (by decide) (hts (.fieldLink RX12 13 "OrderMoverModel" "powerA" "I") (by decide +kernel)) (fun _ h9 => h9) rfl (by decide +kernel) rfl rfl (Nat.le_of_ble_eq_true rfl) rfl dX12_goBack_48 (fun H locs hP hS => ?_)
      obtain ⟨M48_2782, hM, h⟩ := sm_lt h
      rw [← hM] at hP; clear hM
      refine lv_aload_n hx hb dX12_goBack_51 rfl (lv_at hl 1 rfl) ?_
      refine lv_aload_n hx hb dX12_goBack_52 rfl (lv_at hl 1 rfl) ?_
      refine sm_get (ci := 12) (C := RX12) (T := TX12) (N := 54) (v := .ref (adr (a0 + 13))) hx hb hts hin12 hown hE hP ha0 rfl rfl 17 (by decide) (hts (.fieldLink RX12 62 "OrderMoverModel" "images" "[I") (by decide +kernel)) (fun _ h9 => h9) rfl dX12_goBack_53 ?_
      refine lv_iload_n hx hb dX12_goBack_56 rfl (lv_at hl 0 rfl) ?_
      refine lv_iconst (v := (2 : Int32)) hx hb dX12_goBack_57 (by decide) ?_
      refine lv_iadd hx hb dX12_goBack_58 ?_
      obtain ⟨c59_2783, h⟩ := sm_ck h
      refine sm_iald hx hb hE hP (t12_17 ha0) c59_2783 dX12_goBack_59 ?_
      refine sm_put (ci := 12) (C := RX12) (T := TX12) (N := 54) (ty := .int) hx hb hts hin12 tyX12 tyX12_ok nmX12 hown hE hJ hP hS ha0 rfl rfl 2 (by decide) (hts (.fieldLink RX12 16 "OrderMoverModel" "powerB" "I") (by decide +kernel)) (fun _ h9 => h9) rfl (by decide +kernel) rfl rfl (Nat.le_of_ble_eq_true rfl) rfl dX12_goBack_60 (fun H locs hP hS => ?_)
      obtain ⟨M60_2784, hM, h⟩ := sm_lt h
      rw [← hM] at hP; clear hM
      refine lv_aload_n hx hb dX12_goBack_63 rfl (lv_at hl 1 rfl) ?_
      refine lv_aload_n hx hb dX12_goBack_64 rfl (lv_at hl 1 rfl) ?_
      refine sm_get (ci := 12) (C := RX12) (T := TX12) (N := 54) (v := .ref (adr (a0 + 13))) hx hb hts hin12 hown hE hP ha0 rfl rfl 17 (by decide) (hts (.fieldLink RX12 62 "OrderMoverModel" "images" "[I") (by decide +kernel)) (fun _ h9 => h9) rfl dX12_goBack_65 ?_
      refine lv_iload_n hx hb dX12_goBack_68 rfl (lv_at hl 0 rfl) ?_
      refine lv_iconst (v := (3 : Int32)) hx hb dX12_goBack_69 (by decide) ?_
      refine lv_iadd hx hb dX12_goBack_70 ?_
      obtain ⟨c71_2785, h⟩ := sm_ck h
      refine sm_iald hx hb hE hP (t12_17 ha0) c71_2785 dX12_goBack_71 ?_
      refine sm_put (ci := 12) (C := RX12) (T := TX12) (N := 54) (ty := .int) hx hb hts hin12 tyX12 tyX12_ok nmX12 hown hE hJ hP hS ha0 rfl rfl 3 (by decide) (hts (.fieldLink RX12 19 "OrderMoverModel" "u" "I") (by decide +kernel)) (fun _ h9 => h9) rfl (by decide +kernel) rfl rfl (Nat.le_of_ble_eq_true rfl) rfl dX12_goBack_72 (fun H locs hP hS => ?_)
      obtain ⟨M72_2786, hM, h⟩ := sm_lt h
      rw [← hM] at hP; clear hM
      refine lv_aload_n hx hb dX12_goBack_75 rfl (lv_at hl 1 rfl) ?_
      refine lv_aload_n hx hb dX12_goBack_76 rfl (lv_at hl 1 rfl) ?_
      refine sm_get (ci := 12) (C := RX12) (T := TX12) (N := 54) (v := .ref (adr (a0 + 13))) hx hb hts hin12 hown hE hP ha0 rfl rfl 17 (by decide) (hts (.fieldLink RX12 62 "OrderMoverModel" "images" "[I") (by decide +kernel)) (fun _ h9 => h9) rfl dX12_goBack_77 ?_
      refine lv_iload_n hx hb dX12_goBack_80 rfl (lv_at hl 0 rfl) ?_
      refine lv_iconst (v := (4 : Int32)) hx hb dX12_goBack_81 (by decide) ?_
      refine lv_iadd hx hb dX12_goBack_82 ?_
      obtain ⟨c83_2787, h⟩ := sm_ck h
      refine sm_iald hx hb hE hP (t12_17 ha0) c83_2787 dX12_goBack_83 ?_
      refine sm_put (ci := 12) (C := RX12) (T := TX12) (N := 54) (ty := .int) hx hb hts hin12 tyX12 tyX12_ok nmX12 hown hE hJ hP hS ha0 rfl rfl 4 (by decide) (hts (.fieldLink RX12 22 "OrderMoverModel" "v" "I") (by decide +kernel)) (fun _ h9 => h9) rfl (by decide +kernel) rfl rfl (Nat.le_of_ble_eq_true rfl) rfl dX12_goBack_84 (fun H locs hP hS => ?_)
      obtain ⟨M84_2788, hM, h⟩ := sm_lt h
      rw [← hM] at hP; clear hM
      refine lv_iconst (v := (0 : Int32)) hx hb dX12_goBack_87 (by decide) ?_
      refine lv_istore_n (lv' := [(3, .int (0 : Int32)), (2, .int ((23 : Int32) * x1)), (0, .ref (adr a0)), (1, .int x1)]) hx hb dX12_goBack_88 rfl hl (by decide) rfl (fun ls hl => ?_)
      refine sm_lp (b := fun rc q => m_X12_goBack_b89 a0 ((23 : Int32) * x1) rc q.1 q.2) (P := fun (q : Int32 × smM) H locs ls => smP D cA 2 adr q.2 H ∧ va_S (smA 2 adr) s.heap H locs ∧ lv_has ls 4 [(0, .ref (adr a0)), (2, .int ((23 : Int32) * x1)), (3, .int q.1)]) (pc := 89) ?_ _ _ _ _ _ h ⟨hP, hS, lv_sub hl [2, 1, 0] rfl⟩
      intro rc89_2791 ih89_2792 q H locs ls h hI
      obtain ⟨x3_89_2789, M89_2790⟩ := q
      obtain ⟨hP, hS, hl⟩ := hI
      have hP : smP D cA 2 adr M89_2790 H := hP
      have hl : lv_has ls 4 [(0, .ref (adr a0)), (2, .int ((23 : Int32) * x1)), (3, .int x3_89_2789)] := hl
      have h : m_X12_goBack_b89 a0 ((23 : Int32) * x1) rc89_2791 x3_89_2789 M89_2790 = some _ := h
      unfold m_X12_goBack_b89 at h
      refine lv_iload_n hx hb dX12_goBack_89 rfl (lv_at hl 2 rfl) ?_
      refine lv_bipush (v := (18 : Int32)) hx hb dX12_goBack_90 (by decide) ?_
      refine lv_icmp_ge (tgt := 117) hx hb dX12_goBack_92 (by decide) (fun c92_2793 => ?_) (fun c92_2793 => ?_)
      · rw [if_pos c92_2793] at h
        refine lv_aload_n hx hb dX12_goBack_117 rfl (lv_at hl 0 rfl) ?_
        obtain ⟨v118_2794, hc118_2796, h⟩ := sm_bd h
        refine sm_ci (va_runV (As := []) (rest := []) ⟨hx, hb, hml, hown, hts⟩ (k_X12_dimension l D cA adr hJ a0 ha0 M89_2790 v118_2794 hc118_2796) (cwV 0 hts gX12_goBack_X12_dimension rfl rfl rfl (by decide +kernel) ⟨Nat.le_of_ble_eq_true rfl, Nat.le_of_ble_eq_true rfl⟩) ⟨smPc_bl, smRv hE hP ha0 rfl (ci := 12) (q := (RX12, TX12, 54)) rfl, smPc_in [.ref (adr a0)] hE hP⟩ rfl rfl hl.1 rfl (lv_room (Nat.le_of_ble_eq_true rfl)) dX12_goBack_118 ⟨Nat.zero_le _, Nat.zero_le _⟩) hS (fun H locs hP hS => ?_)
        cases h
        exact sm_iret hx hb hr hlocks hP hS dX12_goBack_121
      · rw [if_neg c92_2793] at h
        refine lv_aload_n hx hb dX12_goBack_95 rfl (lv_at hl 0 rfl) ?_
        refine sm_get (ci := 12) (C := RX12) (T := TX12) (N := 54) (v := .ref (adr (a0 + 1))) hx hb hts hin12 hown hE hP ha0 rfl rfl 5 (by decide) (hts (.fieldLink RX12 25 "OrderMoverModel" "coefficients" "[I") (by decide +kernel)) (fun _ h9 => h9) rfl dX12_goBack_96 ?_
        refine lv_iload_n hx hb dX12_goBack_99 rfl (lv_at hl 2 rfl) ?_
        refine lv_aload_n hx hb dX12_goBack_100 rfl (lv_at hl 0 rfl) ?_
        refine sm_get (ci := 12) (C := RX12) (T := TX12) (N := 54) (v := .ref (adr (a0 + 13))) hx hb hts hin12 hown hE hP ha0 rfl rfl 17 (by decide) (hts (.fieldLink RX12 62 "OrderMoverModel" "images" "[I") (by decide +kernel)) (fun _ h9 => h9) rfl dX12_goBack_101 ?_
        refine lv_iload_n hx hb dX12_goBack_104 rfl (lv_at hl 1 rfl) ?_
        refine lv_iconst (v := (5 : Int32)) hx hb dX12_goBack_105 (by decide) ?_
        refine lv_iadd hx hb dX12_goBack_106 ?_
        refine lv_iload_n hx hb dX12_goBack_107 rfl (lv_at hl 2 rfl) ?_
        refine lv_iadd hx hb dX12_goBack_108 ?_
        obtain ⟨c109_2797, h⟩ := sm_ck h
        refine sm_iald hx hb hE hP (t12_17 ha0) c109_2797 dX12_goBack_109 ?_
        obtain ⟨c110_2798, h⟩ := sm_ck h
        refine sm_iast hx hb hE hJ hP hS (t12_5 ha0) c110_2798 dX12_goBack_110 (fun H locs hP hS => ?_)
        obtain ⟨M110_2799, hM, h⟩ := sm_lt h
        rw [← hM] at hP; clear hM
        refine lv_iinc (v := (x3_89_2789 + (1 : Int32))) (lv' := [(3, .int (x3_89_2789 + (1 : Int32))), (0, .ref (adr a0)), (2, .int ((23 : Int32) * x1))]) hx hb dX12_goBack_111 hl (k := 2) rfl (congrArg (fun z => x3_89_2789 + z) (by decide)) (by decide) rfl (fun ls hl => ?_)
        refine lv_goto (tgt := 89) hx hb dX12_goBack_114 (by decide) ?_
        exact ih89_2792 ((x3_89_2789 + (1 : Int32)), M110_2799) _ _ _ h ⟨hP, hS, lv_sub hl [1, 2, 0] rfl⟩
    · rw [if_pos c18_2776] at h
      refine lv_bipush (v := (-2 : Int32)) hx hb dX12_goBack_21 (by decide) ?_
      cases h
      exact sm_iret hx hb hr hlocks hP hS dX12_goBack_23
  · rw [if_pos c7_2774] at h
    refine lv_iconst (v := (-1 : Int32)) hx hb dX12_goBack_10 (by decide) ?_
    cases h
    exact sm_iret hx hb hr hlocks hP hS dX12_goBack_11
