set_option maxHeartbeats 4000000 in
set_option maxRecDepth 100000 in
theorem k_X12_image (l : Launch) (D : va_G) (cA : Nat → ClassId) (adr : Nat → Nat) (hJ : smJ 2 adr) (a0 : Nat) (x1 : Int32) (ha0 : smT 2 a0 12) (M : smM) (v1 : Int32) (M1 : smM) (h : m_X12_image a0 x1 M = some (v1, M1)) : Met l yX12_image wsX12_image ({ frames := 1, cells := 0, slots := 0, locals := 25 }) (smPc D cA 2 adr M [.ref (adr a0), .int x1]) (smQi D cA 2 adr M1 v1) 0 0 (smA 2 adr) := by
  refine Met.ofW (cc := cX12_image) (maxL := 4) (ret := (some .int)) (by decide) rfl ?_
  intro p e s m args below meth c s₁ B hml hv
  obtain ⟨rfl, hE, hP⟩ := hv
  have hx := B.exec
  have hb := B.bytes
  have hr := B.returns
  have hts := atoms_spec (ws := wsX12_image) B.pre
  have hown : s.vm.findClass RX12 = some m.cls := findClass_of_methodNamed B.named
  have hlocks := B.notSynchronized
  have hS : va_S (smA 2 adr) s.heap s.heap [] := va_S.rf
  have hP : smP D cA 2 adr M s.heap := hP
  have hl := lv_entry ([.ref (adr a0), .int x1]) (n := 4) (Nat.le_of_ble_eq_true rfl)
  rw [lg_entry_eq]
  generalize (lg_sl ([.ref (adr a0), .int x1]) ++ List.replicate (4 - (lg_sl ([.ref (adr a0), .int x1])).length) Slot.unset).toArray = ls at hl ⊢
  have hl : lv_has ls 4 [(0, .ref (adr a0)), (1, .int x1)] := hl
  unfold m_X12_image at h
  have hin12 : ∀ w ∈ u_ws RX12 TX12 54, w ∈ wsX12_image := by decide +kernel
  refine lv_iload_n hx hb dX12_image_0 rfl (lv_at hl 1 rfl) ?_
  refine lv_i2l hx hb dX12_image_1 rfl ?_
  refine lv_lconst (v := (0 : Int64)) hx hb dX12_image_2 (by decide) ?_
  refine lv_lconst (v := (1 : Int64)) hx hb dX12_image_3 (by decide) ?_
  obtain ⟨v4_2800, hc4_2802, h⟩ := sm_bd h
  refine sm_ci (va_runS (As := [.long ((x1).toInt64), .long (0 : Int64), .long (1 : Int64)]) (rest := []) ⟨hx, hb, hml, hown, hts⟩ (k_X12_in l D cA adr hJ ((x1).toInt64) (0 : Int64) (1 : Int64)  M v4_2800 hc4_2802) (va_cwS 3 hts gX12_image_X12_in rfl rfl rfl (by decide +kernel) ⟨Nat.le_of_ble_eq_true rfl, Nat.le_of_ble_eq_true rfl⟩) ⟨smPc_bl, smPc_in [.long ((x1).toInt64), .long (0 : Int64), .long (1 : Int64)] hE hP⟩ rfl rfl hl.1 rfl (lv_room (Nat.le_of_ble_eq_true rfl)) dX12_image_4 ⟨Nat.zero_le _, Nat.zero_le _⟩) hS (fun H locs hP hS => ?_)
  refine lv_if_ne (tgt := 12) hx hb dX12_image_7 (by decide) (fun c7_2803 => ?_) (fun c7_2803 => ?_)
  · rw [if_neg c7_2803] at h
    refine lv_bipush (v := (23 : Int32)) hx hb dX12_image_12 (by decide) ?_
    refine lv_iload_n hx hb dX12_image_14 rfl (lv_at hl 1 rfl) ?_
    refine lv_imul hx hb dX12_image_15 ?_
    refine lv_istore_n (lv' := [(2, .int ((23 : Int32) * x1)), (0, .ref (adr a0)), (1, .int x1)]) hx hb dX12_image_16 rfl hl (by decide) rfl (fun ls hl => ?_)
    refine lv_aload_n hx hb dX12_image_17 rfl (lv_at hl 1 rfl) ?_
    refine sm_get (ci := 12) (C := RX12) (T := TX12) (N := 54) (v := .ref (adr (a0 + 13))) hx hb hts hin12 hown hE hP ha0 rfl rfl 17 (by decide) (hts (.fieldLink RX12 62 "OrderMoverModel" "images" "[I") (by decide +kernel)) (fun _ h9 => h9) rfl dX12_image_18 ?_
    refine lv_iload_n hx hb dX12_image_21 rfl (lv_at hl 0 rfl) ?_
    refine lv_aload_n hx hb dX12_image_22 rfl (lv_at hl 1 rfl) ?_
    refine sm_get (ci := 12) (C := RX12) (T := TX12) (N := 54) (v := .int (M a0 0)) hx hb hts hin12 hown hE hP ha0 rfl rfl 0 (by decide) (hts (.fieldLink RX12 7 "OrderMoverModel" "p" "I") (by decide +kernel)) (fun _ h9 => h9) rfl dX12_image_23 ?_
    obtain ⟨c26_2804, h⟩ := sm_ck h
    refine sm_iast hx hb hE hJ hP hS (t12_17 ha0) c26_2804 dX12_image_26 (fun H locs hP hS => ?_)
    obtain ⟨M26_2805, hM, h⟩ := sm_lt h
    rw [← hM] at hP; clear hM
    refine lv_aload_n hx hb dX12_image_27 rfl (lv_at hl 1 rfl) ?_
    refine sm_get (ci := 12) (C := RX12) (T := TX12) (N := 54) (v := .ref (adr (a0 + 13))) hx hb hts hin12 hown hE hP ha0 rfl rfl 17 (by decide) (hts (.fieldLink RX12 62 "OrderMoverModel" "images" "[I") (by decide +kernel)) (fun _ h9 => h9) rfl dX12_image_28 ?_
    refine lv_iload_n hx hb dX12_image_31 rfl (lv_at hl 0 rfl) ?_
    refine lv_iconst (v := (1 : Int32)) hx hb dX12_image_32 (by decide) ?_
    refine lv_iadd hx hb dX12_image_33 ?_
    refine lv_aload_n hx hb dX12_image_34 rfl (lv_at hl 1 rfl) ?_
    refine sm_get (ci := 12) (C := RX12) (T := TX12) (N := 54) (v := .int (M26_2805 a0 1)) hx hb hts hin12 hown hE hP ha0 rfl rfl 1 (by decide) (hts (.fieldLink RX12 13 "OrderMoverModel" "powerA" "I") (by decide +kernel)) (fun _ h9 => h9) rfl dX12_image_35 ?_
    obtain ⟨c38_2806, h⟩ := sm_ck h
    refine sm_iast hx hb hE hJ hP hS (t12_17 ha0) c38_2806 dX12_image_38 (fun H locs hP hS => ?_)
    obtain ⟨M38_2807, hM, h⟩ := sm_lt h
    rw [← hM] at hP; clear hM
    refine lv_aload_n hx hb dX12_image_39 rfl (lv_at hl 1 rfl) ?_
    refine sm_get (ci := 12) (C := RX12) (T := TX12) (N := 54) (v := .ref (adr (a0 + 13))) hx hb hts hin12 hown hE hP ha0 rfl rfl 17 (by decide) (hts (.fieldLink RX12 62 "OrderMoverModel" "images" "[I") (by decide +kernel)) (fun _ h9 => h9) rfl dX12_image_40 ?_
    refine lv_iload_n hx hb dX12_image_43 rfl (lv_at hl 0 rfl) ?_
    refine lv_iconst (v := (2 : Int32)) hx hb dX12_image_44 (by decide) ?_
    refine lv_iadd hx hb dX12_image_45 ?_
    refine lv_aload_n hx hb dX12_image_46 rfl (lv_at hl 1 rfl) ?_
    refine sm_get (ci := 12) (C := RX12) (T := TX12) (N := 54) (v := .int (M38_2807 a0 2)) hx hb hts hin12 hown hE hP ha0 rfl rfl 2 (by decide) (hts (.fieldLink RX12 16 "OrderMoverModel" "powerB" "I") (by decide +kernel)) (fun _ h9 => h9) rfl dX12_image_47 ?_
    obtain ⟨c50_2808, h⟩ := sm_ck h
    refine sm_iast hx hb hE hJ hP hS (t12_17 ha0) c50_2808 dX12_image_50 (fun H locs hP hS => ?_)
    obtain ⟨M50_2809, hM, h⟩ := sm_lt h
    rw [← hM] at hP; clear hM
    refine lv_aload_n hx hb dX12_image_51 rfl (lv_at hl 1 rfl) ?_
    refine sm_get (ci := 12) (C := RX12) (T := TX12) (N := 54) (v := .ref (adr (a0 + 13))) hx hb hts hin12 hown hE hP ha0 rfl rfl 17 (by decide) (hts (.fieldLink RX12 62 "OrderMoverModel" "images" "[I") (by decide +kernel)) (fun _ h9 => h9) rfl dX12_image_52 ?_
    refine lv_iload_n hx hb dX12_image_55 rfl (lv_at hl 0 rfl) ?_
    refine lv_iconst (v := (3 : Int32)) hx hb dX12_image_56 (by decide) ?_
    refine lv_iadd hx hb dX12_image_57 ?_
    refine lv_aload_n hx hb dX12_image_58 rfl (lv_at hl 1 rfl) ?_
    refine sm_get (ci := 12) (C := RX12) (T := TX12) (N := 54) (v := .int (M50_2809 a0 3)) hx hb hts hin12 hown hE hP ha0 rfl rfl 3 (by decide) (hts (.fieldLink RX12 19 "OrderMoverModel" "u" "I") (by decide +kernel)) (fun _ h9 => h9) rfl dX12_image_59 ?_
    obtain ⟨c62_2810, h⟩ := sm_ck h
    refine sm_iast hx hb hE hJ hP hS (t12_17 ha0) c62_2810 dX12_image_62 (fun H locs hP hS => ?_)
    obtain ⟨M62_2811, hM, h⟩ := sm_lt h
    rw [← hM] at hP; clear hM
    refine lv_aload_n hx hb dX12_image_63 rfl (lv_at hl 1 rfl) ?_
    refine sm_get (ci := 12) (C := RX12) (T := TX12) (N := 54) (v := .ref (adr (a0 + 13))) hx hb hts hin12 hown hE hP ha0 rfl rfl 17 (by decide) (hts (.fieldLink RX12 62 "OrderMoverModel" "images" "[I") (by decide +kernel)) (fun _ h9 => h9) rfl dX12_image_64 ?_
    refine lv_iload_n hx hb dX12_image_67 rfl (lv_at hl 0 rfl) ?_
    refine lv_iconst (v := (4 : Int32)) hx hb dX12_image_68 (by decide) ?_
    refine lv_iadd hx hb dX12_image_69 ?_
    refine lv_aload_n hx hb dX12_image_70 rfl (lv_at hl 1 rfl) ?_
    refine sm_get (ci := 12) (C := RX12) (T := TX12) (N := 54) (v := .int (M62_2811 a0 4)) hx hb hts hin12 hown hE hP ha0 rfl rfl 4 (by decide) (hts (.fieldLink RX12 22 "OrderMoverModel" "v" "I") (by decide +kernel)) (fun _ h9 => h9) rfl dX12_image_71 ?_
    obtain ⟨c74_2812, h⟩ := sm_ck h
    refine sm_iast hx hb hE hJ hP hS (t12_17 ha0) c74_2812 dX12_image_74 (fun H locs hP hS => ?_)
    obtain ⟨M74_2813, hM, h⟩ := sm_lt h
    rw [← hM] at hP; clear hM
    refine lv_iconst (v := (0 : Int32)) hx hb dX12_image_75 (by decide) ?_
    refine lv_istore_n (lv' := [(3, .int (0 : Int32)), (2, .int ((23 : Int32) * x1)), (0, .ref (adr a0)), (1, .int x1)]) hx hb dX12_image_76 rfl hl (by decide) rfl (fun ls hl => ?_)
    refine sm_lp (b := fun rc q => m_X12_image_b77 a0 x1 ((23 : Int32) * x1) rc q.1 q.2) (P := fun (q : Int32 × smM) H locs ls => smP D cA 2 adr q.2 H ∧ va_S (smA 2 adr) s.heap H locs ∧ lv_has ls 4 [(0, .ref (adr a0)), (1, .int x1), (2, .int ((23 : Int32) * x1)), (3, .int q.1)]) (pc := 77) ?_ _ _ _ _ _ h ⟨hP, hS, lv_sub hl [2, 3, 1, 0] rfl⟩
    intro rc77_2816 ih77_2817 q H locs ls h hI
    obtain ⟨x3_77_2814, M77_2815⟩ := q
    obtain ⟨hP, hS, hl⟩ := hI
    have hP : smP D cA 2 adr M77_2815 H := hP
    have hl : lv_has ls 4 [(0, .ref (adr a0)), (1, .int x1), (2, .int ((23 : Int32) * x1)), (3, .int x3_77_2814)] := hl
    have h : m_X12_image_b77 a0 x1 ((23 : Int32) * x1) rc77_2816 x3_77_2814 M77_2815 = some _ := h
    unfold m_X12_image_b77 at h
    refine lv_iload_n hx hb dX12_image_77 rfl (lv_at hl 3 rfl) ?_
    refine lv_bipush (v := (18 : Int32)) hx hb dX12_image_78 (by decide) ?_
    refine lv_icmp_ge (tgt := 105) hx hb dX12_image_80 (by decide) (fun c80_2818 => ?_) (fun c80_2818 => ?_)
    · rw [if_pos c80_2818] at h
      refine lv_aload_n hx hb dX12_image_105 rfl (lv_at hl 0 rfl) ?_
      refine sm_get (ci := 12) (C := RX12) (T := TX12) (N := 54) (v := .ref (adr (a0 + 14))) hx hb hts hin12 hown hE hP ha0 rfl rfl 18 (by decide) (hts (.fieldLink RX12 65 "OrderMoverModel" "isKept" "[Z") (by decide +kernel)) (fun _ h9 => h9) rfl dX12_image_106 ?_
      refine lv_iload_n hx hb dX12_image_109 rfl (lv_at hl 1 rfl) ?_
      refine lv_iconst (v := (1 : Int32)) hx hb dX12_image_110 (by decide) ?_
      obtain ⟨c111_2819, h⟩ := sm_ck h
      refine sm_zast (y := (1 : Int32)) hx hb hE hJ hP hS (t12_18 ha0) (by decide) c111_2819 dX12_image_111 (fun H locs hP hS => ?_)
      obtain ⟨M111_2820, hM, h⟩ := sm_lt h
      rw [← hM] at hP; clear hM
      refine lv_aload_n hx hb dX12_image_112 rfl (lv_at hl 0 rfl) ?_
      obtain ⟨v113_2821, hc113_2823, h⟩ := sm_bd h
      refine sm_ci (va_runV (As := []) (rest := []) ⟨hx, hb, hml, hown, hts⟩ (k_X12_dimension l D cA adr hJ a0 ha0 M111_2820 v113_2821 hc113_2823) (cwV 0 hts gX12_image_X12_dimension rfl rfl rfl (by decide +kernel) ⟨Nat.le_of_ble_eq_true rfl, Nat.le_of_ble_eq_true rfl⟩) ⟨smPc_bl, smRv hE hP ha0 rfl (ci := 12) (q := (RX12, TX12, 54)) rfl, smPc_in [.ref (adr a0)] hE hP⟩ rfl rfl hl.1 rfl (lv_room (Nat.le_of_ble_eq_true rfl)) dX12_image_113 ⟨Nat.zero_le _, Nat.zero_le _⟩) hS (fun H locs hP hS => ?_)
      cases h
      exact sm_iret hx hb hr hlocks hP hS dX12_image_116
    · rw [if_neg c80_2818] at h
      refine lv_aload_n hx hb dX12_image_83 rfl (lv_at hl 0 rfl) ?_
      refine sm_get (ci := 12) (C := RX12) (T := TX12) (N := 54) (v := .ref (adr (a0 + 13))) hx hb hts hin12 hown hE hP ha0 rfl rfl 17 (by decide) (hts (.fieldLink RX12 62 "OrderMoverModel" "images" "[I") (by decide +kernel)) (fun _ h9 => h9) rfl dX12_image_84 ?_
      refine lv_iload_n hx hb dX12_image_87 rfl (lv_at hl 2 rfl) ?_
      refine lv_iconst (v := (5 : Int32)) hx hb dX12_image_88 (by decide) ?_
      refine lv_iadd hx hb dX12_image_89 ?_
      refine lv_iload_n hx hb dX12_image_90 rfl (lv_at hl 3 rfl) ?_
      refine lv_iadd hx hb dX12_image_91 ?_
      refine lv_aload_n hx hb dX12_image_92 rfl (lv_at hl 0 rfl) ?_
      refine sm_get (ci := 12) (C := RX12) (T := TX12) (N := 54) (v := .ref (adr (a0 + 1))) hx hb hts hin12 hown hE hP ha0 rfl rfl 5 (by decide) (hts (.fieldLink RX12 25 "OrderMoverModel" "coefficients" "[I") (by decide +kernel)) (fun _ h9 => h9) rfl dX12_image_93 ?_
      refine lv_iload_n hx hb dX12_image_96 rfl (lv_at hl 3 rfl) ?_
      obtain ⟨c97_2824, h⟩ := sm_ck h
      refine sm_iald hx hb hE hP (t12_5 ha0) c97_2824 dX12_image_97 ?_
      obtain ⟨c98_2825, h⟩ := sm_ck h
      refine sm_iast hx hb hE hJ hP hS (t12_17 ha0) c98_2825 dX12_image_98 (fun H locs hP hS => ?_)
      obtain ⟨M98_2826, hM, h⟩ := sm_lt h
      rw [← hM] at hP; clear hM
      refine lv_iinc (v := (x3_77_2814 + (1 : Int32))) (lv' := [(3, .int (x3_77_2814 + (1 : Int32))), (0, .ref (adr a0)), (1, .int x1), (2, .int ((23 : Int32) * x1))]) hx hb dX12_image_99 hl (k := 3) rfl (congrArg (fun z => x3_77_2814 + z) (by decide)) (by decide) rfl (fun ls hl => ?_)
      refine lv_goto (tgt := 77) hx hb dX12_image_102 (by decide) ?_
      exact ih77_2817 ((x3_77_2814 + (1 : Int32)), M98_2826) _ _ _ h ⟨hP, hS, lv_sub hl [1, 2, 3, 0] rfl⟩
  · rw [if_pos c7_2803] at h
    refine lv_iconst (v := (-1 : Int32)) hx hb dX12_image_10 (by decide) ?_
    cases h
    exact sm_iret hx hb hr hlocks hP hS dX12_image_11
set_option maxHeartbeats 4000000 in
set_option maxRecDepth 100000 in
theorem k_X12_keepBase (l : Launch) (D : va_G) (cA : Nat → ClassId) (adr : Nat → Nat) (hJ : smJ 2 adr) (a0 : Nat) (x1 : Int32) (x2 : Int32) (ha0 : smT 2 a0 12) (M : smM) (v1 : Int32) (M1 : smM) (h : m_X12_keepBase a0 x1 x2 M = some (v1, M1)) : Met l yX12_keepBase wsX12_keepBase ({ frames := 6, cells := 0, slots := 0, locals := 139 }) (smPc D cA 2 adr M [.ref (adr a0), .int x1, .int x2]) (smQi D cA 2 adr M1 v1) 0 0 (smA 2 adr) := by
  refine Met.ofW (cc := cX12_keepBase) (maxL := 5) (ret := (some .int)) (by decide) rfl ?_
  intro p e s m args below meth c s₁ B hml hv
  obtain ⟨rfl, hE, hP⟩ := hv
  have hx := B.exec
  have hb := B.bytes
  have hr := B.returns
  have hts := atoms_spec (ws := wsX12_keepBase) B.pre
  have hown : s.vm.findClass RX12 = some m.cls := findClass_of_methodNamed B.named
  have hlocks := B.notSynchronized
  have hS : va_S (smA 2 adr) s.heap s.heap [] := va_S.rf
  have hP : smP D cA 2 adr M s.heap := hP
  have hl := lv_entry ([.ref (adr a0), .int x1, .int x2]) (n := 5) (Nat.le_of_ble_eq_true rfl)
  rw [lg_entry_eq]
  generalize (lg_sl ([.ref (adr a0), .int x1, .int x2]) ++ List.replicate (5 - (lg_sl ([.ref (adr a0), .int x1, .int x2])).length) Slot.unset).toArray = ls at hl ⊢
  have hl : lv_has ls 5 [(0, .ref (adr a0)), (1, .int x1), (2, .int x2)] := hl
  unfold m_X12_keepBase at h
  have hin12 : ∀ w ∈ u_ws RX12 TX12 54, w ∈ wsX12_keepBase := by decide +kernel
  refine lv_iload_n hx hb dX12_keepBase_0 rfl (lv_at hl 1 rfl) ?_
  obtain ⟨v1_2827, hc1_2829, h⟩ := sm_bd h
  refine sm_ci (va_runS (As := [.int x1]) (rest := []) ⟨hx, hb, hml, hown, hts⟩ (k_X12_isSlot l D cA adr hJ x1  M v1_2827 hc1_2829) (va_cwS 1 hts gX12_keepBase_X12_isSlot rfl rfl rfl (by decide +kernel) ⟨Nat.le_of_ble_eq_true rfl, Nat.le_of_ble_eq_true rfl⟩) ⟨smPc_bl, smPc_in [.int x1] hE hP⟩ rfl rfl hl.1 rfl (lv_room (Nat.le_of_ble_eq_true rfl)) dX12_keepBase_1 ⟨Nat.zero_le _, Nat.zero_le _⟩) hS (fun H locs hP hS => ?_)
  refine lv_if_eq (tgt := 15) hx hb dX12_keepBase_4 (by decide) (fun c4_2830 => ?_) (fun c4_2830 => ?_)
  · rw [if_pos c4_2830] at h
    refine lv_iconst (v := (-1 : Int32)) hx hb dX12_keepBase_15 (by decide) ?_
    cases h
    exact sm_iret hx hb hr hlocks hP hS dX12_keepBase_16
  · rw [if_neg c4_2830] at h
    refine lv_aload_n hx hb dX12_keepBase_7 rfl (lv_at hl 0 rfl) ?_
    refine lv_iload_n hx hb dX12_keepBase_8 rfl (lv_at hl 2 rfl) ?_
    obtain ⟨v9_2831, hc9_2833, h⟩ := sm_bd h
    refine sm_ci (va_runV (As := [.int x2]) (rest := []) ⟨hx, hb, hml, hown, hts⟩ (k_X12_isOrder l D cA adr hJ a0 x2 ha0 M v9_2831 hc9_2833) (cwV 1 hts gX12_keepBase_X12_isOrder rfl rfl rfl (by decide +kernel) ⟨Nat.le_of_ble_eq_true rfl, Nat.le_of_ble_eq_true rfl⟩) ⟨smPc_bl, smRv hE hP ha0 rfl (ci := 12) (q := (RX12, TX12, 54)) rfl, smPc_in [.ref (adr a0), .int x2] hE hP⟩ rfl rfl hl.1 rfl (lv_room (Nat.le_of_ble_eq_true rfl)) dX12_keepBase_9 ⟨Nat.zero_le _, Nat.zero_le _⟩) hS (fun H locs hP hS => ?_)
    refine lv_if_ne (tgt := 17) hx hb dX12_keepBase_12 (by decide) (fun c12_2834 => ?_) (fun c12_2834 => ?_)
    · rw [if_neg c12_2834] at h
      refine lv_aload_n hx hb dX12_keepBase_17 rfl (lv_at hl 0 rfl) ?_
      refine lv_iload_n hx hb dX12_keepBase_18 rfl (lv_at hl 2 rfl) ?_
      obtain ⟨M19_2836, hc19_2837, h⟩ := sm_bd h
      refine sm_cv (va_runV (As := [.int x2]) (rest := []) ⟨hx, hb, hml, hown, hts⟩ (k_X12_walksNow l D cA adr hJ a0 x2 ha0 M M19_2836 hc19_2837) (cwV 1 hts gX12_keepBase_X12_walksNow rfl rfl rfl (by decide +kernel) ⟨Nat.le_of_ble_eq_true rfl, Nat.le_of_ble_eq_true rfl⟩) ⟨smPc_bl, smRv hE hP ha0 rfl (ci := 12) (q := (RX12, TX12, 54)) rfl, smPc_in [.ref (adr a0), .int x2] hE hP⟩ rfl rfl hl.1 rfl (lv_room (Nat.le_of_ble_eq_true rfl)) dX12_keepBase_19 ⟨Nat.zero_le _, Nat.zero_le _⟩) hS (fun H locs hP hS => ?_)
      refine lv_aload_n hx hb dX12_keepBase_22 rfl (lv_at hl 0 rfl) ?_
      refine sm_get (ci := 12) (C := RX12) (T := TX12) (N := 54) (v := .ref (adr (a0 + 2))) hx hb hts hin12 hown hE hP ha0 rfl rfl 6 (by decide) (hts (.fieldLink RX12 29 "OrderMoverModel" "kinds" "[I") (by decide +kernel)) (fun _ h9 => h9) rfl dX12_keepBase_23 ?_
      refine lv_iload_n hx hb dX12_keepBase_26 rfl (lv_at hl 1 rfl) ?_
      refine lv_iconst (v := (2 : Int32)) hx hb dX12_keepBase_27 (by decide) ?_
      obtain ⟨c28_2838, h⟩ := sm_ck h
      refine sm_iast hx hb hE hJ hP hS (t12_6 ha0) c28_2838 dX12_keepBase_28 (fun H locs hP hS => ?_)
      obtain ⟨M28_2839, hM, h⟩ := sm_lt h
      rw [← hM] at hP; clear hM
      refine lv_aload_n hx hb dX12_keepBase_29 rfl (lv_at hl 0 rfl) ?_
      refine sm_get (ci := 12) (C := RX12) (T := TX12) (N := 54) (v := .ref (adr (a0 + 3))) hx hb hts hin12 hown hE hP ha0 rfl rfl 7 (by decide) (hts (.fieldLink RX12 32 "OrderMoverModel" "many" "[I") (by decide +kernel)) (fun _ h9 => h9) rfl dX12_keepBase_30 ?_
      refine lv_iload_n hx hb dX12_keepBase_33 rfl (lv_at hl 1 rfl) ?_
      refine lv_aload_n hx hb dX12_keepBase_34 rfl (lv_at hl 0 rfl) ?_
      refine sm_get (ci := 12) (C := RX12) (T := TX12) (N := 54) (v := .int (M28_2839 a0 34)) hx hb hts hin12 hown hE hP ha0 rfl rfl 34 (by decide) (hts (.fieldLink RX12 230 "OrderMoverModel" "members" "I") (by decide +kernel)) (fun _ h9 => h9) rfl dX12_keepBase_35 ?_
      obtain ⟨c38_2840, h⟩ := sm_ck h
      refine sm_iast hx hb hE hJ hP hS (t12_7 ha0) c38_2840 dX12_keepBase_38 (fun H locs hP hS => ?_)
      obtain ⟨M38_2841, hM, h⟩ := sm_lt h
      rw [← hM] at hP; clear hM
      refine lv_aload_n hx hb dX12_keepBase_39 rfl (lv_at hl 0 rfl) ?_
      refine sm_get (ci := 12) (C := RX12) (T := TX12) (N := 54) (v := .ref (adr (a0 + 7))) hx hb hts hin12 hown hE hP ha0 rfl rfl 11 (by decide) (hts (.fieldLink RX12 44 "OrderMoverModel" "keptOrder" "[I") (by decide +kernel)) (fun _ h9 => h9) rfl dX12_keepBase_40 ?_
      refine lv_iload_n hx hb dX12_keepBase_43 rfl (lv_at hl 1 rfl) ?_
      refine lv_iload_n hx hb dX12_keepBase_44 rfl (lv_at hl 2 rfl) ?_
      obtain ⟨c45_2842, h⟩ := sm_ck h
      refine sm_iast hx hb hE hJ hP hS (t12_11 ha0) c45_2842 dX12_keepBase_45 (fun H locs hP hS => ?_)
      obtain ⟨M45_2843, hM, h⟩ := sm_lt h
      rw [← hM] at hP; clear hM
      refine lv_aload_n hx hb dX12_keepBase_46 rfl (lv_at hl 0 rfl) ?_
      refine sm_get (ci := 12) (C := RX12) (T := TX12) (N := 54) (v := .ref (adr (a0 + 8))) hx hb hts hin12 hown hE hP ha0 rfl rfl 12 (by decide) (hts (.fieldLink RX12 47 "OrderMoverModel" "keptU" "[I") (by decide +kernel)) (fun _ h9 => h9) rfl dX12_keepBase_47 ?_
      refine lv_iload_n hx hb dX12_keepBase_50 rfl (lv_at hl 1 rfl) ?_
      refine lv_aload_n hx hb dX12_keepBase_51 rfl (lv_at hl 0 rfl) ?_
      refine sm_get (ci := 12) (C := RX12) (T := TX12) (N := 54) (v := .int (M45_2843 a0 3)) hx hb hts hin12 hown hE hP ha0 rfl rfl 3 (by decide) (hts (.fieldLink RX12 19 "OrderMoverModel" "u" "I") (by decide +kernel)) (fun _ h9 => h9) rfl dX12_keepBase_52 ?_
      obtain ⟨c55_2844, h⟩ := sm_ck h
      refine sm_iast hx hb hE hJ hP hS (t12_12 ha0) c55_2844 dX12_keepBase_55 (fun H locs hP hS => ?_)
      obtain ⟨M55_2845, hM, h⟩ := sm_lt h
      rw [← hM] at hP; clear hM
      refine lv_aload_n hx hb dX12_keepBase_56 rfl (lv_at hl 0 rfl) ?_
      refine sm_get (ci := 12) (C := RX12) (T := TX12) (N := 54) (v := .ref (adr (a0 + 9))) hx hb hts hin12 hown hE hP ha0 rfl rfl 13 (by decide) (hts (.fieldLink RX12 50 "OrderMoverModel" "keptV" "[I") (by decide +kernel)) (fun _ h9 => h9) rfl dX12_keepBase_57 ?_
      refine lv_iload_n hx hb dX12_keepBase_60 rfl (lv_at hl 1 rfl) ?_
      refine lv_aload_n hx hb dX12_keepBase_61 rfl (lv_at hl 0 rfl) ?_
      refine sm_get (ci := 12) (C := RX12) (T := TX12) (N := 54) (v := .int (M55_2845 a0 4)) hx hb hts hin12 hown hE hP ha0 rfl rfl 4 (by decide) (hts (.fieldLink RX12 22 "OrderMoverModel" "v" "I") (by decide +kernel)) (fun _ h9 => h9) rfl dX12_keepBase_62 ?_
      obtain ⟨c65_2846, h⟩ := sm_ck h
      refine sm_iast hx hb hE hJ hP hS (t12_13 ha0) c65_2846 dX12_keepBase_65 (fun H locs hP hS => ?_)
      obtain ⟨M65_2847, hM, h⟩ := sm_lt h
      rw [← hM] at hP; clear hM
      refine lv_iconst (v := (0 : Int32)) hx hb dX12_keepBase_66 (by decide) ?_
      refine lv_istore_n (lv' := [(3, .int (0 : Int32)), (0, .ref (adr a0)), (1, .int x1), (2, .int x2)]) hx hb dX12_keepBase_67 rfl hl (by decide) rfl (fun ls hl => ?_)
      refine sm_lp (b := fun rc q => m_X12_keepBase_b68 a0 x1 rc q.1 q.2) (P := fun (q : Int32 × smM) H locs ls => smP D cA 2 adr q.2 H ∧ va_S (smA 2 adr) s.heap H locs ∧ lv_has ls 5 [(0, .ref (adr a0)), (1, .int x1), (3, .int q.1)]) (pc := 68) ?_ _ _ _ _ _ h ⟨hP, hS, lv_sub hl [1, 2, 0] rfl⟩
      intro rc68_2850 ih68_2851 q H locs ls h hI
      obtain ⟨x3_68_2848, M68_2849⟩ := q
      obtain ⟨hP, hS, hl⟩ := hI
      have hP : smP D cA 2 adr M68_2849 H := hP
      have hl : lv_has ls 5 [(0, .ref (adr a0)), (1, .int x1), (3, .int x3_68_2848)] := hl
      have h : m_X12_keepBase_b68 a0 x1 rc68_2850 x3_68_2848 M68_2849 = some _ := h
      unfold m_X12_keepBase_b68 at h
      refine lv_iload_n hx hb dX12_keepBase_68 rfl (lv_at hl 2 rfl) ?_
      refine lv_aload_n hx hb dX12_keepBase_69 rfl (lv_at hl 0 rfl) ?_
      refine sm_get (ci := 12) (C := RX12) (T := TX12) (N := 54) (v := .int (M68_2849 a0 34)) hx hb hts hin12 hown hE hP ha0 rfl rfl 34 (by decide) (hts (.fieldLink RX12 230 "OrderMoverModel" "members" "I") (by decide +kernel)) (fun _ h9 => h9) rfl dX12_keepBase_70 ?_
      refine lv_icmp_ge (tgt := 161) hx hb dX12_keepBase_73 (by decide) (fun c73_2852 => ?_) (fun c73_2852 => ?_)
      · rw [if_pos c73_2852] at h
        refine lv_aload_n hx hb dX12_keepBase_161 rfl (lv_at hl 0 rfl) ?_
        refine sm_get (ci := 12) (C := RX12) (T := TX12) (N := 54) (v := .int (M68_2849 a0 34)) hx hb hts hin12 hown hE hP ha0 rfl rfl 34 (by decide) (hts (.fieldLink RX12 230 "OrderMoverModel" "members" "I") (by decide +kernel)) (fun _ h9 => h9) rfl dX12_keepBase_162 ?_
        cases h
        exact sm_iret hx hb hr hlocks hP hS dX12_keepBase_165
      · rw [if_neg c73_2852] at h
        refine lv_aload_n hx hb dX12_keepBase_76 rfl (lv_at hl 0 rfl) ?_
        refine sm_get (ci := 12) (C := RX12) (T := TX12) (N := 54) (v := .ref (adr (a0 + 10))) hx hb hts hin12 hown hE hP ha0 rfl rfl 14 (by decide) (hts (.fieldLink RX12 53 "OrderMoverModel" "keptI" "[I") (by decide +kernel)) (fun _ h9 => h9) rfl dX12_keepBase_77 ?_
        refine lv_bipush (v := (10 : Int32)) hx hb dX12_keepBase_80 (by decide) ?_
        refine lv_iload_n hx hb dX12_keepBase_82 rfl (lv_at hl 1 rfl) ?_
        refine lv_imul hx hb dX12_keepBase_83 ?_
        refine lv_iload_n hx hb dX12_keepBase_84 rfl (lv_at hl 2 rfl) ?_
        refine lv_iadd hx hb dX12_keepBase_85 ?_
        refine lv_aload_n hx hb dX12_keepBase_86 rfl (lv_at hl 0 rfl) ?_
        refine sm_get (ci := 12) (C := RX12) (T := TX12) (N := 54) (v := .ref (adr (a0 + 26))) hx hb hts hin12 hown hE hP ha0 rfl rfl 35 (by decide) (hts (.fieldLink RX12 102 "OrderMoverModel" "memberI" "[I") (by decide +kernel)) (fun _ h9 => h9) rfl dX12_keepBase_87 ?_
        refine lv_iload_n hx hb dX12_keepBase_90 rfl (lv_at hl 2 rfl) ?_
        obtain ⟨c91_2853, h⟩ := sm_ck h
        refine sm_iald hx hb hE hP (t12_35 ha0) c91_2853 dX12_keepBase_91 ?_
        obtain ⟨c92_2854, h⟩ := sm_ck h
        refine sm_iast hx hb hE hJ hP hS (t12_14 ha0) c92_2854 dX12_keepBase_92 (fun H locs hP hS => ?_)
        obtain ⟨M92_2855, hM, h⟩ := sm_lt h
        rw [← hM] at hP; clear hM
        refine lv_aload_n hx hb dX12_keepBase_93 rfl (lv_at hl 0 rfl) ?_
        refine sm_get (ci := 12) (C := RX12) (T := TX12) (N := 54) (v := .ref (adr (a0 + 11))) hx hb hts hin12 hown hE hP ha0 rfl rfl 15 (by decide) (hts (.fieldLink RX12 56 "OrderMoverModel" "keptJ" "[I") (by decide +kernel)) (fun _ h9 => h9) rfl dX12_keepBase_94 ?_
        refine lv_bipush (v := (10 : Int32)) hx hb dX12_keepBase_97 (by decide) ?_
        refine lv_iload_n hx hb dX12_keepBase_99 rfl (lv_at hl 1 rfl) ?_
        refine lv_imul hx hb dX12_keepBase_100 ?_
        refine lv_iload_n hx hb dX12_keepBase_101 rfl (lv_at hl 2 rfl) ?_
        refine lv_iadd hx hb dX12_keepBase_102 ?_
        refine lv_aload_n hx hb dX12_keepBase_103 rfl (lv_at hl 0 rfl) ?_
        refine sm_get (ci := 12) (C := RX12) (T := TX12) (N := 54) (v := .ref (adr (a0 + 27))) hx hb hts hin12 hown hE hP ha0 rfl rfl 36 (by decide) (hts (.fieldLink RX12 105 "OrderMoverModel" "memberJ" "[I") (by decide +kernel)) (fun _ h9 => h9) rfl dX12_keepBase_104 ?_
        refine lv_iload_n hx hb dX12_keepBase_107 rfl (lv_at hl 2 rfl) ?_
        obtain ⟨c108_2856, h⟩ := sm_ck h
        refine sm_iald hx hb hE hP (t12_36 ha0) c108_2856 dX12_keepBase_108 ?_
        obtain ⟨c109_2857, h⟩ := sm_ck h
        refine sm_iast hx hb hE hJ hP hS (t12_15 ha0) c109_2857 dX12_keepBase_109 (fun H locs hP hS => ?_)
        obtain ⟨M109_2858, hM, h⟩ := sm_lt h
        rw [← hM] at hP; clear hM
        refine lv_iconst (v := (0 : Int32)) hx hb dX12_keepBase_110 (by decide) ?_
        refine lv_istore (lv' := [(4, .int (0 : Int32)), (0, .ref (adr a0)), (1, .int x1), (3, .int x3_68_2848)]) hx hb dX12_keepBase_111 hl (by decide) rfl (fun ls hl => ?_)
        refine sm_lp (b := fun rc q => m_X12_keepBase_b113 a0 x1 x3_68_2848 rc68_2850 rc q.1 q.2) (P := fun (q : Int32 × smM) H locs ls => smP D cA 2 adr q.2 H ∧ va_S (smA 2 adr) s.heap H locs ∧ lv_has ls 5 [(0, .ref (adr a0)), (1, .int x1), (3, .int x3_68_2848), (4, .int q.1)]) (pc := 113) ?_ _ _ _ _ _ h ⟨hP, hS, lv_sub hl [1, 2, 3, 0] rfl⟩
        intro rc113_2861 ih113_2862 q H locs ls h hI
        obtain ⟨x4_113_2859, M113_2860⟩ := q
        obtain ⟨hP, hS, hl⟩ := hI
        have hP : smP D cA 2 adr M113_2860 H := hP
        have hl : lv_has ls 5 [(0, .ref (adr a0)), (1, .int x1), (3, .int x3_68_2848), (4, .int x4_113_2859)] := hl
        have h : m_X12_keepBase_b113 a0 x1 x3_68_2848 rc68_2850 rc113_2861 x4_113_2859 M113_2860 = some _ := h
        unfold m_X12_keepBase_b113 at h
        refine lv_iload hx hb dX12_keepBase_113 (lv_at hl 3 rfl) ?_
        refine lv_bipush (v := (9 : Int32)) hx hb dX12_keepBase_115 (by decide) ?_
        refine lv_icmp_ge (tgt := 155) hx hb dX12_keepBase_117 (by decide) (fun c117_2863 => ?_) (fun c117_2863 => ?_)
        · rw [if_pos c117_2863] at h
          refine lv_iinc (v := (x3_68_2848 + (1 : Int32))) (lv' := [(3, .int (x3_68_2848 + (1 : Int32))), (0, .ref (adr a0)), (1, .int x1), (4, .int x4_113_2859)]) hx hb dX12_keepBase_155 hl (k := 2) rfl (congrArg (fun z => x3_68_2848 + z) (by decide)) (by decide) rfl (fun ls hl => ?_)
          refine lv_goto (tgt := 68) hx hb dX12_keepBase_158 (by decide) ?_
          exact ih68_2851 ((x3_68_2848 + (1 : Int32)), M113_2860) _ _ _ h ⟨hP, hS, lv_sub hl [1, 2, 0] rfl⟩
        · rw [if_neg c117_2863] at h
          refine lv_aload_n hx hb dX12_keepBase_120 rfl (lv_at hl 0 rfl) ?_
          refine sm_get (ci := 12) (C := RX12) (T := TX12) (N := 54) (v := .ref (adr (a0 + 12))) hx hb hts hin12 hown hE hP ha0 rfl rfl 16 (by decide) (hts (.fieldLink RX12 59 "OrderMoverModel" "keptTails" "[I") (by decide +kernel)) (fun _ h9 => h9) rfl dX12_keepBase_121 ?_
          refine lv_bipush (v := (90 : Int32)) hx hb dX12_keepBase_124 (by decide) ?_
          refine lv_iload_n hx hb dX12_keepBase_126 rfl (lv_at hl 1 rfl) ?_
          refine lv_imul hx hb dX12_keepBase_127 ?_
          refine lv_bipush (v := (9 : Int32)) hx hb dX12_keepBase_128 (by decide) ?_
          refine lv_iload_n hx hb dX12_keepBase_130 rfl (lv_at hl 2 rfl) ?_
          refine lv_imul hx hb dX12_keepBase_131 ?_
          refine lv_iadd hx hb dX12_keepBase_132 ?_
          refine lv_iload hx hb dX12_keepBase_133 (lv_at hl 3 rfl) ?_
          refine lv_iadd hx hb dX12_keepBase_135 ?_
          refine lv_aload_n hx hb dX12_keepBase_136 rfl (lv_at hl 0 rfl) ?_
          refine sm_get (ci := 12) (C := RX12) (T := TX12) (N := 54) (v := .ref (adr (a0 + 28))) hx hb hts hin12 hown hE hP ha0 rfl rfl 37 (by decide) (hts (.fieldLink RX12 108 "OrderMoverModel" "tails" "[I") (by decide +kernel)) (fun _ h9 => h9) rfl dX12_keepBase_137 ?_
          refine lv_bipush (v := (9 : Int32)) hx hb dX12_keepBase_140 (by decide) ?_
          refine lv_iload_n hx hb dX12_keepBase_142 rfl (lv_at hl 2 rfl) ?_
          refine lv_imul hx hb dX12_keepBase_143 ?_
          refine lv_iload hx hb dX12_keepBase_144 (lv_at hl 3 rfl) ?_
          refine lv_iadd hx hb dX12_keepBase_146 ?_
          obtain ⟨c147_2864, h⟩ := sm_ck h
          refine sm_iald hx hb hE hP (t12_37 ha0) c147_2864 dX12_keepBase_147 ?_
          obtain ⟨c148_2865, h⟩ := sm_ck h
          refine sm_iast hx hb hE hJ hP hS (t12_16 ha0) c148_2865 dX12_keepBase_148 (fun H locs hP hS => ?_)
          obtain ⟨M148_2866, hM, h⟩ := sm_lt h
          rw [← hM] at hP; clear hM
          refine lv_iinc (v := (x4_113_2859 + (1 : Int32))) (lv' := [(4, .int (x4_113_2859 + (1 : Int32))), (0, .ref (adr a0)), (1, .int x1), (3, .int x3_68_2848)]) hx hb dX12_keepBase_149 hl (k := 3) rfl (congrArg (fun z => x4_113_2859 + z) (by decide)) (by decide) rfl (fun ls hl => ?_)
          refine lv_goto (tgt := 113) hx hb dX12_keepBase_152 (by decide) ?_
          exact ih113_2862 ((x4_113_2859 + (1 : Int32)), M148_2866) _ _ _ h ⟨hP, hS, lv_sub hl [1, 2, 3, 0] rfl⟩
    · rw [if_pos c12_2834] at h
      refine lv_iconst (v := (-1 : Int32)) hx hb dX12_keepBase_15 (by decide) ?_
      cases h
      exact sm_iret hx hb hr hlocks hP hS dX12_keepBase_16
set_option maxHeartbeats 4000000 in
set_option maxRecDepth 100000 in
theorem k_X12_kept (l : Launch) (D : va_G) (cA : Nat → ClassId) (adr : Nat → Nat) (hJ : smJ 2 adr) (a0 : Nat) (x1 : Int32) (x2 : Int32) (ha0 : smT 2 a0 12) (M : smM) (v1 : Int32) (h : m_X12_kept a0 x1 x2 M = some v1) : Met l yX12_kept wsX12_kept ({ frames := 2, cells := 0, slots := 0, locals := 45 }) (smPc D cA 2 adr M [.ref (adr a0), .int x1, .int x2]) (smQi D cA 2 adr M v1) 0 0 (smA 2 adr) := by
  refine Met.ofW (cc := cX12_kept) (maxL := 4) (ret := (some .int)) (by decide) rfl ?_
  intro p e s m args below meth c s₁ B hml hv
  obtain ⟨rfl, hE, hP⟩ := hv
  have hx := B.exec
  have hb := B.bytes
  have hr := B.returns
  have hts := atoms_spec (ws := wsX12_kept) B.pre
  have hown : s.vm.findClass RX12 = some m.cls := findClass_of_methodNamed B.named
  have hlocks := B.notSynchronized
  have hS : va_S (smA 2 adr) s.heap s.heap [] := va_S.rf
  have hP : smP D cA 2 adr M s.heap := hP
  have hl := lv_entry ([.ref (adr a0), .int x1, .int x2]) (n := 4) (Nat.le_of_ble_eq_true rfl)
  rw [lg_entry_eq]
  generalize (lg_sl ([.ref (adr a0), .int x1, .int x2]) ++ List.replicate (4 - (lg_sl ([.ref (adr a0), .int x1, .int x2])).length) Slot.unset).toArray = ls at hl ⊢
  have hl : lv_has ls 4 [(0, .ref (adr a0)), (1, .int x1), (2, .int x2)] := hl
  unfold m_X12_kept at h
  have hin12 : ∀ w ∈ u_ws RX12 TX12 54, w ∈ wsX12_kept := by decide +kernel
  refine lv_iload_n hx hb dX12_kept_0 rfl (lv_at hl 1 rfl) ?_
  obtain ⟨v1_2867, hc1_2869, h⟩ := sm_bd h
  refine sm_ci (va_runS (As := [.int x1]) (rest := []) ⟨hx, hb, hml, hown, hts⟩ (k_X12_isSlot l D cA adr hJ x1  M v1_2867 hc1_2869) (va_cwS 1 hts gX12_kept_X12_isSlot rfl rfl rfl (by decide +kernel) ⟨Nat.le_of_ble_eq_true rfl, Nat.le_of_ble_eq_true rfl⟩) ⟨smPc_bl, smPc_in [.int x1] hE hP⟩ rfl rfl hl.1 rfl (lv_room (Nat.le_of_ble_eq_true rfl)) dX12_kept_1 ⟨Nat.zero_le _, Nat.zero_le _⟩) hS (fun H locs hP hS => ?_)
  refine lv_if_eq (tgt := 17) hx hb dX12_kept_4 (by decide) (fun c4_2870 => ?_) (fun c4_2870 => ?_)
  · rw [if_pos c4_2870] at h
    refine lv_iconst (v := (-1 : Int32)) hx hb dX12_kept_17 (by decide) ?_
    cases h
    exact sm_iret hx hb hr hlocks hP hS dX12_kept_18
  · rw [if_neg c4_2870] at h
    refine lv_iload_n hx hb dX12_kept_7 rfl (lv_at hl 2 rfl) ?_
    refine lv_i2l hx hb dX12_kept_8 rfl ?_
    refine lv_lconst (v := (0 : Int64)) hx hb dX12_kept_9 (by decide) ?_
    refine lv_lconst (v := (1 : Int64)) hx hb dX12_kept_10 (by decide) ?_
    obtain ⟨v11_2871, hc11_2873, h⟩ := sm_bd h
    refine sm_ci (va_runS (As := [.long ((x2).toInt64), .long (0 : Int64), .long (1 : Int64)]) (rest := []) ⟨hx, hb, hml, hown, hts⟩ (k_X12_in l D cA adr hJ ((x2).toInt64) (0 : Int64) (1 : Int64)  M v11_2871 hc11_2873) (va_cwS 3 hts gX12_kept_X12_in rfl rfl rfl (by decide +kernel) ⟨Nat.le_of_ble_eq_true rfl, Nat.le_of_ble_eq_true rfl⟩) ⟨smPc_bl, smPc_in [.long ((x2).toInt64), .long (0 : Int64), .long (1 : Int64)] hE hP⟩ rfl rfl hl.1 rfl (lv_room (Nat.le_of_ble_eq_true rfl)) dX12_kept_11 ⟨Nat.zero_le _, Nat.zero_le _⟩) hS (fun H locs hP hS => ?_)
    refine lv_if_ne (tgt := 19) hx hb dX12_kept_14 (by decide) (fun c14_2874 => ?_) (fun c14_2874 => ?_)
    · rw [if_neg c14_2874] at h
      refine lv_aload_n hx hb dX12_kept_19 rfl (lv_at hl 0 rfl) ?_
      refine lv_iload_n hx hb dX12_kept_20 rfl (lv_at hl 1 rfl) ?_
      refine lv_iconst (v := (2 : Int32)) hx hb dX12_kept_21 (by decide) ?_
      obtain ⟨v22_2875, hc22_2877, h⟩ := sm_bd h
      refine sm_ci (va_runV (As := [.int x1, .int (2 : Int32)]) (rest := []) ⟨hx, hb, hml, hown, hts⟩ (k_X12_lacks l D cA adr hJ a0 x1 (2 : Int32) ha0 M v22_2875 hc22_2877) (cwV 2 hts gX12_kept_X12_lacks rfl rfl rfl (by decide +kernel) ⟨Nat.le_of_ble_eq_true rfl, Nat.le_of_ble_eq_true rfl⟩) ⟨smPc_bl, smRv hE hP ha0 rfl (ci := 12) (q := (RX12, TX12, 54)) rfl, smPc_in [.ref (adr a0), .int x1, .int (2 : Int32)] hE hP⟩ rfl rfl hl.1 rfl (lv_room (Nat.le_of_ble_eq_true rfl)) dX12_kept_22 ⟨Nat.zero_le _, Nat.zero_le _⟩) hS (fun H locs hP hS => ?_)
      refine lv_istore_n (lv' := [(3, .int v22_2875), (0, .ref (adr a0)), (1, .int x1), (2, .int x2)]) hx hb dX12_kept_25 rfl hl (by decide) rfl (fun ls hl => ?_)
      refine lv_iload_n hx hb dX12_kept_26 rfl (lv_at hl 0 rfl) ?_
      refine lv_if_ge (tgt := 32) hx hb dX12_kept_27 (by decide) (fun c27_2878 => ?_) (fun c27_2878 => ?_)
      · rw [if_pos c27_2878] at h
        refine lv_iload_n hx hb dX12_kept_32 rfl (lv_at hl 3 rfl) ?_
        refine lv_if_ne (tgt := 45) hx hb dX12_kept_33 (by decide) (fun c33_2879 => ?_) (fun c33_2879 => ?_)
        · rw [if_neg c33_2879] at h
          refine lv_bipush (v := (10 : Int32)) hx hb dX12_kept_45 (by decide) ?_
          refine lv_aload_n hx hb dX12_kept_47 rfl (lv_at hl 1 rfl) ?_
          refine sm_get (ci := 12) (C := RX12) (T := TX12) (N := 54) (v := .ref (adr (a0 + 8))) hx hb hts hin12 hown hE hP ha0 rfl rfl 12 (by decide) (hts (.fieldLink RX12 47 "OrderMoverModel" "keptU" "[I") (by decide +kernel)) (fun _ h9 => h9) rfl dX12_kept_48 ?_
          refine lv_iload_n hx hb dX12_kept_51 rfl (lv_at hl 2 rfl) ?_
          obtain ⟨c52_2880, h⟩ := sm_ck h
          refine sm_iald hx hb hE hP (t12_12 ha0) c52_2880 dX12_kept_52 ?_
          refine lv_imul hx hb dX12_kept_53 ?_
          refine lv_aload_n hx hb dX12_kept_54 rfl (lv_at hl 1 rfl) ?_
          refine sm_get (ci := 12) (C := RX12) (T := TX12) (N := 54) (v := .ref (adr (a0 + 9))) hx hb hts hin12 hown hE hP ha0 rfl rfl 13 (by decide) (hts (.fieldLink RX12 50 "OrderMoverModel" "keptV" "[I") (by decide +kernel)) (fun _ h9 => h9) rfl dX12_kept_55 ?_
          refine lv_iload_n hx hb dX12_kept_58 rfl (lv_at hl 2 rfl) ?_
          obtain ⟨c59_2881, h⟩ := sm_ck h
          refine sm_iald hx hb hE hP (t12_13 ha0) c59_2881 dX12_kept_59 ?_
          refine lv_iadd hx hb dX12_kept_60 ?_
          cases h
          exact sm_iret hx hb hr hlocks hP hS dX12_kept_61
        · rw [if_pos c33_2879] at h
          refine lv_aload_n hx hb dX12_kept_36 rfl (lv_at hl 1 rfl) ?_
          refine sm_get (ci := 12) (C := RX12) (T := TX12) (N := 54) (v := .ref (adr (a0 + 7))) hx hb hts hin12 hown hE hP ha0 rfl rfl 11 (by decide) (hts (.fieldLink RX12 44 "OrderMoverModel" "keptOrder" "[I") (by decide +kernel)) (fun _ h9 => h9) rfl dX12_kept_37 ?_
          refine lv_iload_n hx hb dX12_kept_40 rfl (lv_at hl 2 rfl) ?_
          obtain ⟨c41_2882, h⟩ := sm_ck h
          refine sm_iald hx hb hE hP (t12_11 ha0) c41_2882 dX12_kept_41 ?_
          refine lv_goto (tgt := 61) hx hb dX12_kept_42 (by decide) ?_
          cases h
          exact sm_iret hx hb hr hlocks hP hS dX12_kept_61
      · rw [if_neg c27_2878] at h
        refine lv_iload_n hx hb dX12_kept_30 rfl (lv_at hl 0 rfl) ?_
        cases h
        exact sm_iret hx hb hr hlocks hP hS dX12_kept_31
    · rw [if_pos c14_2874] at h
      refine lv_iconst (v := (-1 : Int32)) hx hb dX12_kept_17 (by decide) ?_
      cases h
      exact sm_iret hx hb hr hlocks hP hS dX12_kept_18
set_option maxHeartbeats 4000000 in
set_option maxRecDepth 100000 in
theorem k_X12_leads (l : Launch) (D : va_G) (cA : Nat → ClassId) (adr : Nat → Nat) (hJ : smJ 2 adr) (a0 : Nat) (x1 : Int32) (x2 : Int32) (ha0 : smT 2 a0 12) (M : smM) (v1 : Int32) (M1 : smM) (h : m_X12_leads a0 x1 x2 M = some (v1, M1)) : Met l yX12_leads wsX12_leads ({ frames := 2, cells := 0, slots := 0, locals := 54 }) (smPc D cA 2 adr M [.ref (adr a0), .int x1, .int x2]) (smQi D cA 2 adr M1 v1) 0 0 (smA 2 adr) := by
  refine Met.ofW (cc := cX12_leads) (maxL := 7) (ret := (some .int)) (by decide) rfl ?_
  intro p e s m args below meth c s₁ B hml hv
  obtain ⟨rfl, hE, hP⟩ := hv
  have hx := B.exec
  have hb := B.bytes
  have hr := B.returns
  have hts := atoms_spec (ws := wsX12_leads) B.pre
  have hown : s.vm.findClass RX12 = some m.cls := findClass_of_methodNamed B.named
  have hlocks := B.notSynchronized
  have hS : va_S (smA 2 adr) s.heap s.heap [] := va_S.rf
  have hP : smP D cA 2 adr M s.heap := hP
  have hl := lv_entry ([.ref (adr a0), .int x1, .int x2]) (n := 7) (Nat.le_of_ble_eq_true rfl)
  rw [lg_entry_eq]
  generalize (lg_sl ([.ref (adr a0), .int x1, .int x2]) ++ List.replicate (7 - (lg_sl ([.ref (adr a0), .int x1, .int x2])).length) Slot.unset).toArray = ls at hl ⊢
  have hl : lv_has ls 7 [(0, .ref (adr a0)), (1, .int x1), (2, .int x2)] := hl
  unfold m_X12_leads at h
  have hin12 : ∀ w ∈ u_ws RX12 TX12 54, w ∈ wsX12_leads := by decide +kernel
  refine lv_iload_n hx hb dX12_leads_0 rfl (lv_at hl 1 rfl) ?_
  obtain ⟨v1_2883, hc1_2885, h⟩ := sm_bd h
  refine sm_ci (va_runS (As := [.int x1]) (rest := []) ⟨hx, hb, hml, hown, hts⟩ (k_X12_isSlot l D cA adr hJ x1  M v1_2883 hc1_2885) (va_cwS 1 hts gX12_leads_X12_isSlot rfl rfl rfl (by decide +kernel) ⟨Nat.le_of_ble_eq_true rfl, Nat.le_of_ble_eq_true rfl⟩) ⟨smPc_bl, smPc_in [.int x1] hE hP⟩ rfl rfl hl.1 rfl (lv_room (Nat.le_of_ble_eq_true rfl)) dX12_leads_1 ⟨Nat.zero_le _, Nat.zero_le _⟩) hS (fun H locs hP hS => ?_)
  refine lv_if_eq (tgt := 15) hx hb dX12_leads_4 (by decide) (fun c4_2886 => ?_) (fun c4_2886 => ?_)
  · rw [if_pos c4_2886] at h
    refine lv_iconst (v := (-1 : Int32)) hx hb dX12_leads_15 (by decide) ?_
    cases h
    exact sm_iret hx hb hr hlocks hP hS dX12_leads_16
  · rw [if_neg c4_2886] at h
    refine lv_aload_n hx hb dX12_leads_7 rfl (lv_at hl 0 rfl) ?_
    refine lv_iload_n hx hb dX12_leads_8 rfl (lv_at hl 2 rfl) ?_
    obtain ⟨v9_2887, hc9_2889, h⟩ := sm_bd h
    refine sm_ci (va_runV (As := [.int x2]) (rest := []) ⟨hx, hb, hml, hown, hts⟩ (k_X12_isOrder l D cA adr hJ a0 x2 ha0 M v9_2887 hc9_2889) (cwV 1 hts gX12_leads_X12_isOrder rfl rfl rfl (by decide +kernel) ⟨Nat.le_of_ble_eq_true rfl, Nat.le_of_ble_eq_true rfl⟩) ⟨smPc_bl, smRv hE hP ha0 rfl (ci := 12) (q := (RX12, TX12, 54)) rfl, smPc_in [.ref (adr a0), .int x2] hE hP⟩ rfl rfl hl.1 rfl (lv_room (Nat.le_of_ble_eq_true rfl)) dX12_leads_9 ⟨Nat.zero_le _, Nat.zero_le _⟩) hS (fun H locs hP hS => ?_)
    refine lv_if_ne (tgt := 17) hx hb dX12_leads_12 (by decide) (fun c12_2890 => ?_) (fun c12_2890 => ?_)
    · rw [if_neg c12_2890] at h
      refine lv_aload_n hx hb dX12_leads_17 rfl (lv_at hl 0 rfl) ?_
      refine lv_iload_n hx hb dX12_leads_18 rfl (lv_at hl 1 rfl) ?_
      refine lv_iconst (v := (1 : Int32)) hx hb dX12_leads_19 (by decide) ?_
      obtain ⟨v20_2891, hc20_2893, h⟩ := sm_bd h
      refine sm_ci (va_runV (As := [.int x1, .int (1 : Int32)]) (rest := []) ⟨hx, hb, hml, hown, hts⟩ (k_X12_lacks l D cA adr hJ a0 x1 (1 : Int32) ha0 M v20_2891 hc20_2893) (cwV 2 hts gX12_leads_X12_lacks rfl rfl rfl (by decide +kernel) ⟨Nat.le_of_ble_eq_true rfl, Nat.le_of_ble_eq_true rfl⟩) ⟨smPc_bl, smRv hE hP ha0 rfl (ci := 12) (q := (RX12, TX12, 54)) rfl, smPc_in [.ref (adr a0), .int x1, .int (1 : Int32)] hE hP⟩ rfl rfl hl.1 rfl (lv_room (Nat.le_of_ble_eq_true rfl)) dX12_leads_20 ⟨Nat.zero_le _, Nat.zero_le _⟩) hS (fun H locs hP hS => ?_)
      refine lv_istore_n (lv' := [(3, .int v20_2891), (0, .ref (adr a0)), (1, .int x1), (2, .int x2)]) hx hb dX12_leads_23 rfl hl (by decide) rfl (fun ls hl => ?_)
      refine lv_iload_n hx hb dX12_leads_24 rfl (lv_at hl 0 rfl) ?_
      refine lv_if_ge (tgt := 30) hx hb dX12_leads_25 (by decide) (fun c25_2894 => ?_) (fun c25_2894 => ?_)
      · rw [if_pos c25_2894] at h
        refine lv_aload_n hx hb dX12_leads_30 rfl (lv_at hl 1 rfl) ?_
        refine lv_iload_n hx hb dX12_leads_31 rfl (lv_at hl 3 rfl) ?_
        refine sm_put (ci := 12) (C := RX12) (T := TX12) (N := 54) (ty := .int) hx hb hts hin12 tyX12 tyX12_ok nmX12 hown hE hJ hP hS ha0 rfl rfl 26 (by decide) (hts (.fieldLink RX12 207 "OrderMoverModel" "orderNow" "I") (by decide +kernel)) (fun _ h9 => h9) rfl (by decide +kernel) rfl rfl (Nat.le_of_ble_eq_true rfl) rfl dX12_leads_32 (fun H locs hP hS => ?_)
        obtain ⟨M32_2895, hM, h⟩ := sm_lt h
        rw [← hM] at hP; clear hM
        refine lv_aload_n hx hb dX12_leads_35 rfl (lv_at hl 1 rfl) ?_
        refine lv_aload_n hx hb dX12_leads_36 rfl (lv_at hl 1 rfl) ?_
        refine sm_get (ci := 12) (C := RX12) (T := TX12) (N := 54) (v := .int (M32_2895 a0 3)) hx hb hts hin12 hown hE hP ha0 rfl rfl 3 (by decide) (hts (.fieldLink RX12 19 "OrderMoverModel" "u" "I") (by decide +kernel)) (fun _ h9 => h9) rfl dX12_leads_37 ?_
        refine sm_put (ci := 12) (C := RX12) (T := TX12) (N := 54) (ty := .int) hx hb hts hin12 tyX12 tyX12_ok nmX12 hown hE hJ hP hS ha0 rfl rfl 27 (by decide) (hts (.fieldLink RX12 210 "OrderMoverModel" "uNow" "I") (by decide +kernel)) (fun _ h9 => h9) rfl (by decide +kernel) rfl rfl (Nat.le_of_ble_eq_true rfl) rfl dX12_leads_40 (fun H locs hP hS => ?_)
        obtain ⟨M40_2896, hM, h⟩ := sm_lt h
        rw [← hM] at hP; clear hM
        refine lv_aload_n hx hb dX12_leads_43 rfl (lv_at hl 1 rfl) ?_
        refine lv_aload_n hx hb dX12_leads_44 rfl (lv_at hl 1 rfl) ?_
        refine sm_get (ci := 12) (C := RX12) (T := TX12) (N := 54) (v := .int (M40_2896 a0 4)) hx hb hts hin12 hown hE hP ha0 rfl rfl 4 (by decide) (hts (.fieldLink RX12 22 "OrderMoverModel" "v" "I") (by decide +kernel)) (fun _ h9 => h9) rfl dX12_leads_45 ?_
        refine sm_put (ci := 12) (C := RX12) (T := TX12) (N := 54) (ty := .int) hx hb hts hin12 tyX12 tyX12_ok nmX12 hown hE hJ hP hS ha0 rfl rfl 28 (by decide) (hts (.fieldLink RX12 213 "OrderMoverModel" "vNow" "I") (by decide +kernel)) (fun _ h9 => h9) rfl (by decide +kernel) rfl rfl (Nat.le_of_ble_eq_true rfl) rfl dX12_leads_48 (fun H locs hP hS => ?_)
        obtain ⟨M48_2897, hM, h⟩ := sm_lt h
        rw [← hM] at hP; clear hM
        refine lv_bipush (v := (-4 : Int32)) hx hb dX12_leads_51 (by decide) ?_
        refine lv_istore (lv' := [(4, .int (-4 : Int32)), (3, .int v20_2891), (0, .ref (adr a0)), (1, .int x1), (2, .int x2)]) hx hb dX12_leads_53 hl (by decide) rfl (fun ls hl => ?_)
        refine lv_iconst (v := (0 : Int32)) hx hb dX12_leads_55 (by decide) ?_
        refine lv_istore (lv' := [(5, .int (0 : Int32)), (4, .int (-4 : Int32)), (3, .int v20_2891), (0, .ref (adr a0)), (1, .int x1), (2, .int x2)]) hx hb dX12_leads_56 hl (by decide) rfl (fun ls hl => ?_)
        refine sm_lp (b := fun rc q => m_X12_leads_b58 a0 x1 x2 M48_2897 rc q.1 q.2) (P := fun (q : Int32 × Int32) H locs ls => smP D cA 2 adr M48_2897 H ∧ va_S (smA 2 adr) s.heap H locs ∧ lv_has ls 7 [(0, .ref (adr a0)), (1, .int x1), (2, .int x2), (4, .int q.1), (5, .int q.2)]) (pc := 58) ?_ _ _ _ _ _ h ⟨hP, hS, lv_sub hl [3, 4, 5, 1, 0] rfl⟩
        intro rc58_2900 ih58_2901 q H locs ls h hI
        obtain ⟨x4_58_2898, x5_58_2899⟩ := q
        obtain ⟨hP, hS, hl⟩ := hI
        have hP : smP D cA 2 adr M48_2897 H := hP
        have hl : lv_has ls 7 [(0, .ref (adr a0)), (1, .int x1), (2, .int x2), (4, .int x4_58_2898), (5, .int x5_58_2899)] := hl
        have h : m_X12_leads_b58 a0 x1 x2 M48_2897 rc58_2900 x4_58_2898 x5_58_2899 = some _ := h
        unfold m_X12_leads_b58 at h
        refine lv_iload hx hb dX12_leads_58 (lv_at hl 4 rfl) ?_
        refine lv_aload_n hx hb dX12_leads_60 rfl (lv_at hl 0 rfl) ?_
        refine sm_get (ci := 12) (C := RX12) (T := TX12) (N := 54) (v := .ref (adr (a0 + 3))) hx hb hts hin12 hown hE hP ha0 rfl rfl 7 (by decide) (hts (.fieldLink RX12 32 "OrderMoverModel" "many" "[I") (by decide +kernel)) (fun _ h9 => h9) rfl dX12_leads_61 ?_
        refine lv_iload_n hx hb dX12_leads_64 rfl (lv_at hl 1 rfl) ?_
        obtain ⟨c65_2902, h⟩ := sm_ck h
        refine sm_iald hx hb hE hP (t12_7 ha0) c65_2902 dX12_leads_65 ?_
        refine lv_icmp_ge (tgt := 183) hx hb dX12_leads_66 (by decide) (fun c66_2903 => ?_) (fun c66_2903 => ?_)
        · rw [if_pos c66_2903] at h
          refine lv_iload hx hb dX12_leads_183 (lv_at hl 3 rfl) ?_
          cases h
          exact sm_iret hx hb hr hlocks hP hS dX12_leads_185
        · rw [if_neg c66_2903] at h
          refine lv_bipush (v := (8 : Int32)) hx hb dX12_leads_69 (by decide) ?_
          refine lv_iload_n hx hb dX12_leads_71 rfl (lv_at hl 1 rfl) ?_
          refine lv_imul hx hb dX12_leads_72 ?_
          refine lv_iload hx hb dX12_leads_73 (lv_at hl 4 rfl) ?_
          refine lv_iadd hx hb dX12_leads_75 ?_
          refine lv_istore (lv' := [(6, .int (((8 : Int32) * x1) + x5_58_2899)), (0, .ref (adr a0)), (1, .int x1), (2, .int x2), (4, .int x4_58_2898), (5, .int x5_58_2899)]) hx hb dX12_leads_76 hl (by decide) rfl (fun ls hl => ?_)
          refine lv_iload_n hx hb dX12_leads_78 rfl (lv_at hl 3 rfl) ?_
          refine lv_aload_n hx hb dX12_leads_79 rfl (lv_at hl 1 rfl) ?_
          refine sm_get (ci := 12) (C := RX12) (T := TX12) (N := 54) (v := .ref (adr (a0 + 5))) hx hb hts hin12 hown hE hP ha0 rfl rfl 9 (by decide) (hts (.fieldLink RX12 38 "OrderMoverModel" "powersI" "[I") (by decide +kernel)) (fun _ h9 => h9) rfl dX12_leads_80 ?_
          refine lv_iload hx hb dX12_leads_83 (lv_at hl 0 rfl) ?_
          obtain ⟨c85_2904, h⟩ := sm_ck h
          refine sm_iald hx hb hE hP (t12_9 ha0) c85_2904 dX12_leads_85 ?_
          refine lv_i2l hx hb dX12_leads_86 rfl ?_
          refine lv_aload_n hx hb dX12_leads_87 rfl (lv_at hl 1 rfl) ?_
          refine sm_get (ci := 12) (C := RX12) (T := TX12) (N := 54) (v := .ref (adr (a0 + 6))) hx hb hts hin12 hown hE hP ha0 rfl rfl 10 (by decide) (hts (.fieldLink RX12 41 "OrderMoverModel" "powersJ" "[I") (by decide +kernel)) (fun _ h9 => h9) rfl dX12_leads_88 ?_
          refine lv_iload hx hb dX12_leads_91 (lv_at hl 0 rfl) ?_
          obtain ⟨c93_2905, h⟩ := sm_ck h
          refine sm_iald hx hb hE hP (t12_10 ha0) c93_2905 dX12_leads_93 ?_
          refine lv_i2l hx hb dX12_leads_94 rfl ?_
          refine lv_aload_n hx hb dX12_leads_95 rfl (lv_at hl 1 rfl) ?_
          refine sm_get (ci := 12) (C := RX12) (T := TX12) (N := 54) (v := .int (M48_2897 a0 3)) hx hb hts hin12 hown hE hP ha0 rfl rfl 3 (by decide) (hts (.fieldLink RX12 19 "OrderMoverModel" "u" "I") (by decide +kernel)) (fun _ h9 => h9) rfl dX12_leads_96 ?_
          refine lv_aload_n hx hb dX12_leads_99 rfl (lv_at hl 1 rfl) ?_
          refine sm_get (ci := 12) (C := RX12) (T := TX12) (N := 54) (v := .int (M48_2897 a0 4)) hx hb hts hin12 hown hE hP ha0 rfl rfl 4 (by decide) (hts (.fieldLink RX12 22 "OrderMoverModel" "v" "I") (by decide +kernel)) (fun _ h9 => h9) rfl dX12_leads_100 ?_
          obtain ⟨v103_2906, hc103_2908, h⟩ := sm_bd h
          refine sm_cl (va_runS (As := [.int x2, .long (((M48_2897 (a0 + 5) ((((8 : Int32) * x1) + x5_58_2899)).toNatClampNeg)).toInt64), .long (((M48_2897 (a0 + 6) ((((8 : Int32) * x1) + x5_58_2899)).toNatClampNeg)).toInt64), .int (M48_2897 a0 3), .int (M48_2897 a0 4)]) (rest := []) ⟨hx, hb, hml, hown, hts⟩ (k_X12_by l D cA adr hJ x2 (((M48_2897 (a0 + 5) ((((8 : Int32) * x1) + x5_58_2899)).toNatClampNeg)).toInt64) (((M48_2897 (a0 + 6) ((((8 : Int32) * x1) + x5_58_2899)).toNatClampNeg)).toInt64) (M48_2897 a0 3) (M48_2897 a0 4)  M48_2897 v103_2906 hc103_2908) (va_cwS 5 hts gX12_leads_X12_by rfl rfl rfl (by decide +kernel) ⟨Nat.le_of_ble_eq_true rfl, Nat.le_of_ble_eq_true rfl⟩) ⟨smPc_bl, smPc_in [.int x2, .long (((M48_2897 (a0 + 5) ((((8 : Int32) * x1) + x5_58_2899)).toNatClampNeg)).toInt64), .long (((M48_2897 (a0 + 6) ((((8 : Int32) * x1) + x5_58_2899)).toNatClampNeg)).toInt64), .int (M48_2897 a0 3), .int (M48_2897 a0 4)] hE hP⟩ rfl rfl hl.1 rfl (lv_room (Nat.le_of_ble_eq_true rfl)) dX12_leads_103 ⟨Nat.zero_le _, Nat.zero_le _⟩) hS (fun H locs hP hS => ?_)
          refine lv_ldc2 (v := (2147483647 : Int64)) hx hb hown (hts (.constantLong RX12 182 (2147483647)) (by decide +kernel)) dX12_leads_106 ?_
          refine W.lcmp hx hb dX12_leads_109 ?_
          refine lv_if_le (tgt := 116) hx hb dX12_leads_110 (by decide) (fun c110_2909 => ?_) (fun c110_2909 => ?_)
          · rw [if_pos c110_2909] at h
            refine lv_iload hx hb dX12_leads_116 (lv_at hl 4 rfl) ?_
            refine lv_bipush (v := (-4 : Int32)) hx hb dX12_leads_118 (by decide) ?_
            refine lv_icmp_eq (tgt := 168) hx hb dX12_leads_120 (by decide) (fun c120_2910 => ?_) (fun c120_2910 => ?_)
            · rw [if_pos c120_2910] at h
              refine lv_iload hx hb dX12_leads_168 (lv_at hl 5 rfl) ?_
              refine lv_goto (tgt := 175) hx hb dX12_leads_170 (by decide) ?_
              refine lv_istore (lv' := [(4, .int x5_58_2899), (6, .int (((8 : Int32) * x1) + x5_58_2899)), (0, .ref (adr a0)), (1, .int x1), (2, .int x2), (5, .int x5_58_2899)]) hx hb dX12_leads_175 hl (by decide) rfl (fun ls hl => ?_)
              refine lv_iinc (v := (x5_58_2899 + (1 : Int32))) (lv' := [(5, .int (x5_58_2899 + (1 : Int32))), (4, .int x5_58_2899), (6, .int (((8 : Int32) * x1) + x5_58_2899)), (0, .ref (adr a0)), (1, .int x1), (2, .int x2)]) hx hb dX12_leads_177 hl (k := 5) rfl (congrArg (fun z => x5_58_2899 + z) (by decide)) (by decide) rfl (fun ls hl => ?_)
              refine lv_goto (tgt := 58) hx hb dX12_leads_180 (by decide) ?_
              exact ih58_2901 (x5_58_2899, (x5_58_2899 + (1 : Int32))) _ _ _ h ⟨hP, hS, lv_sub hl [3, 4, 5, 1, 0] rfl⟩
            · rw [if_neg c120_2910] at h
              refine lv_aload_n hx hb dX12_leads_123 rfl (lv_at hl 1 rfl) ?_
              refine lv_aload_n hx hb dX12_leads_124 rfl (lv_at hl 1 rfl) ?_
              refine sm_get (ci := 12) (C := RX12) (T := TX12) (N := 54) (v := .ref (adr (a0 + 5))) hx hb hts hin12 hown hE hP ha0 rfl rfl 9 (by decide) (hts (.fieldLink RX12 38 "OrderMoverModel" "powersI" "[I") (by decide +kernel)) (fun _ h9 => h9) rfl dX12_leads_125 ?_
              refine lv_bipush (v := (8 : Int32)) hx hb dX12_leads_128 (by decide) ?_
              refine lv_iload_n hx hb dX12_leads_130 rfl (lv_at hl 2 rfl) ?_
              refine lv_imul hx hb dX12_leads_131 ?_
              refine lv_iload hx hb dX12_leads_132 (lv_at hl 4 rfl) ?_
              refine lv_iadd hx hb dX12_leads_134 ?_
              obtain ⟨c135_2911, h⟩ := sm_ck h
              refine sm_iald hx hb hE hP (t12_9 ha0) c135_2911 dX12_leads_135 ?_
              refine lv_aload_n hx hb dX12_leads_136 rfl (lv_at hl 1 rfl) ?_
              refine sm_get (ci := 12) (C := RX12) (T := TX12) (N := 54) (v := .ref (adr (a0 + 6))) hx hb hts hin12 hown hE hP ha0 rfl rfl 10 (by decide) (hts (.fieldLink RX12 41 "OrderMoverModel" "powersJ" "[I") (by decide +kernel)) (fun _ h9 => h9) rfl dX12_leads_137 ?_
              refine lv_bipush (v := (8 : Int32)) hx hb dX12_leads_140 (by decide) ?_
              refine lv_iload_n hx hb dX12_leads_142 rfl (lv_at hl 2 rfl) ?_
              refine lv_imul hx hb dX12_leads_143 ?_
              refine lv_iload hx hb dX12_leads_144 (lv_at hl 4 rfl) ?_
              refine lv_iadd hx hb dX12_leads_146 ?_
              obtain ⟨c147_2912, h⟩ := sm_ck h
              refine sm_iald hx hb hE hP (t12_10 ha0) c147_2912 dX12_leads_147 ?_
              refine lv_aload_n hx hb dX12_leads_148 rfl (lv_at hl 1 rfl) ?_
              refine sm_get (ci := 12) (C := RX12) (T := TX12) (N := 54) (v := .ref (adr (a0 + 5))) hx hb hts hin12 hown hE hP ha0 rfl rfl 9 (by decide) (hts (.fieldLink RX12 38 "OrderMoverModel" "powersI" "[I") (by decide +kernel)) (fun _ h9 => h9) rfl dX12_leads_149 ?_
              refine lv_iload hx hb dX12_leads_152 (lv_at hl 0 rfl) ?_
              obtain ⟨c154_2913, h⟩ := sm_ck h
              refine sm_iald hx hb hE hP (t12_9 ha0) c154_2913 dX12_leads_154 ?_
              refine lv_aload_n hx hb dX12_leads_155 rfl (lv_at hl 1 rfl) ?_
              refine sm_get (ci := 12) (C := RX12) (T := TX12) (N := 54) (v := .ref (adr (a0 + 6))) hx hb hts hin12 hown hE hP ha0 rfl rfl 10 (by decide) (hts (.fieldLink RX12 41 "OrderMoverModel" "powersJ" "[I") (by decide +kernel)) (fun _ h9 => h9) rfl dX12_leads_156 ?_
              refine lv_iload hx hb dX12_leads_159 (lv_at hl 0 rfl) ?_
              obtain ⟨c161_2914, h⟩ := sm_ck h
              refine sm_iald hx hb hE hP (t12_10 ha0) c161_2914 dX12_leads_161 ?_
              obtain ⟨v162_2915, hc162_2917, h⟩ := sm_bd h
              refine sm_ci (va_runV (As := [.int (M48_2897 (a0 + 5) ((((8 : Int32) * x1) + x4_58_2898)).toNatClampNeg), .int (M48_2897 (a0 + 6) ((((8 : Int32) * x1) + x4_58_2898)).toNatClampNeg), .int (M48_2897 (a0 + 5) ((((8 : Int32) * x1) + x5_58_2899)).toNatClampNeg), .int (M48_2897 (a0 + 6) ((((8 : Int32) * x1) + x5_58_2899)).toNatClampNeg)]) (rest := []) ⟨hx, hb, hml, hown, hts⟩ (k_X12_isLess l D cA adr hJ a0 (M48_2897 (a0 + 5) ((((8 : Int32) * x1) + x4_58_2898)).toNatClampNeg) (M48_2897 (a0 + 6) ((((8 : Int32) * x1) + x4_58_2898)).toNatClampNeg) (M48_2897 (a0 + 5) ((((8 : Int32) * x1) + x5_58_2899)).toNatClampNeg) (M48_2897 (a0 + 6) ((((8 : Int32) * x1) + x5_58_2899)).toNatClampNeg) ha0 M48_2897 v162_2915 hc162_2917) (cwV 4 hts gX12_leads_X12_isLess rfl rfl rfl (by decide +kernel) ⟨Nat.le_of_ble_eq_true rfl, Nat.le_of_ble_eq_true rfl⟩) ⟨smPc_bl, smRv hE hP ha0 rfl (ci := 12) (q := (RX12, TX12, 54)) rfl, smPc_in [.ref (adr a0), .int (M48_2897 (a0 + 5) ((((8 : Int32) * x1) + x4_58_2898)).toNatClampNeg), .int (M48_2897 (a0 + 6) ((((8 : Int32) * x1) + x4_58_2898)).toNatClampNeg), .int (M48_2897 (a0 + 5) ((((8 : Int32) * x1) + x5_58_2899)).toNatClampNeg), .int (M48_2897 (a0 + 6) ((((8 : Int32) * x1) + x5_58_2899)).toNatClampNeg)] hE hP⟩ rfl rfl hl.1 rfl (lv_room (Nat.le_of_ble_eq_true rfl)) dX12_leads_162 ⟨Nat.zero_le _, Nat.zero_le _⟩) hS (fun H locs hP hS => ?_)
              refine lv_if_eq (tgt := 173) hx hb dX12_leads_165 (by decide) (fun c165_2918 => ?_) (fun c165_2918 => ?_)
              · rw [if_pos c165_2918] at h
                refine lv_iload hx hb dX12_leads_173 (lv_at hl 4 rfl) ?_
                refine lv_istore (lv' := [(4, .int x4_58_2898), (6, .int (((8 : Int32) * x1) + x5_58_2899)), (0, .ref (adr a0)), (1, .int x1), (2, .int x2), (5, .int x5_58_2899)]) hx hb dX12_leads_175 hl (by decide) rfl (fun ls hl => ?_)
                refine lv_iinc (v := (x5_58_2899 + (1 : Int32))) (lv' := [(5, .int (x5_58_2899 + (1 : Int32))), (4, .int x4_58_2898), (6, .int (((8 : Int32) * x1) + x5_58_2899)), (0, .ref (adr a0)), (1, .int x1), (2, .int x2)]) hx hb dX12_leads_177 hl (k := 5) rfl (congrArg (fun z => x5_58_2899 + z) (by decide)) (by decide) rfl (fun ls hl => ?_)
                refine lv_goto (tgt := 58) hx hb dX12_leads_180 (by decide) ?_
                exact ih58_2901 (x4_58_2898, (x5_58_2899 + (1 : Int32))) _ _ _ h ⟨hP, hS, lv_sub hl [3, 4, 5, 1, 0] rfl⟩
              · rw [if_neg c165_2918] at h
                refine lv_iload hx hb dX12_leads_168 (lv_at hl 5 rfl) ?_
                refine lv_goto (tgt := 175) hx hb dX12_leads_170 (by decide) ?_
                refine lv_istore (lv' := [(4, .int x5_58_2899), (6, .int (((8 : Int32) * x1) + x5_58_2899)), (0, .ref (adr a0)), (1, .int x1), (2, .int x2), (5, .int x5_58_2899)]) hx hb dX12_leads_175 hl (by decide) rfl (fun ls hl => ?_)
                refine lv_iinc (v := (x5_58_2899 + (1 : Int32))) (lv' := [(5, .int (x5_58_2899 + (1 : Int32))), (4, .int x5_58_2899), (6, .int (((8 : Int32) * x1) + x5_58_2899)), (0, .ref (adr a0)), (1, .int x1), (2, .int x2)]) hx hb dX12_leads_177 hl (k := 5) rfl (congrArg (fun z => x5_58_2899 + z) (by decide)) (by decide) rfl (fun ls hl => ?_)
                refine lv_goto (tgt := 58) hx hb dX12_leads_180 (by decide) ?_
                exact ih58_2901 (x5_58_2899, (x5_58_2899 + (1 : Int32))) _ _ _ h ⟨hP, hS, lv_sub hl [3, 4, 5, 1, 0] rfl⟩
          · rw [if_neg c110_2909] at h
            refine lv_bipush (v := (-13 : Int32)) hx hb dX12_leads_113 (by decide) ?_
            cases h
            exact sm_iret hx hb hr hlocks hP hS dX12_leads_115
      · rw [if_neg c25_2894] at h
        refine lv_iload_n hx hb dX12_leads_28 rfl (lv_at hl 0 rfl) ?_
        cases h
        exact sm_iret hx hb hr hlocks hP hS dX12_leads_29
    · rw [if_pos c12_2890] at h
      refine lv_iconst (v := (-1 : Int32)) hx hb dX12_leads_15 (by decide) ?_
      cases h
      exact sm_iret hx hb hr hlocks hP hS dX12_leads_16
set_option maxHeartbeats 4000000 in
set_option maxRecDepth 100000 in
theorem k_X12_least (l : Launch) (D : va_G) (cA : Nat → ClassId) (adr : Nat → Nat) (hJ : smJ 2 adr) (a0 : Nat) (x1 : Int32) (x2 : Int32) (ha0 : smT 2 a0 12) (M : smM) (v1 : Int32) (M1 : smM) (h : m_X12_least a0 x1 x2 M = some (v1, M1)) : Met l yX12_least wsX12_least ({ frames := 6, cells := 0, slots := 0, locals := 140 }) (smPc D cA 2 adr M [.ref (adr a0), .int x1, .int x2]) (smQi D cA 2 adr M1 v1) 0 0 (smA 2 adr) := by
  refine Met.ofW (cc := cX12_least) (maxL := 3) (ret := (some .int)) (by decide) rfl ?_
  intro p e s m args below meth c s₁ B hml hv
  obtain ⟨rfl, hE, hP⟩ := hv
  have hx := B.exec
  have hb := B.bytes
  have hr := B.returns
  have hts := atoms_spec (ws := wsX12_least) B.pre
  have hown : s.vm.findClass RX12 = some m.cls := findClass_of_methodNamed B.named
  have hlocks := B.notSynchronized
  have hS : va_S (smA 2 adr) s.heap s.heap [] := va_S.rf
  have hP : smP D cA 2 adr M s.heap := hP
  have hl := lv_entry ([.ref (adr a0), .int x1, .int x2]) (n := 3) (Nat.le_of_ble_eq_true rfl)
  rw [lg_entry_eq]
  generalize (lg_sl ([.ref (adr a0), .int x1, .int x2]) ++ List.replicate (3 - (lg_sl ([.ref (adr a0), .int x1, .int x2])).length) Slot.unset).toArray = ls at hl ⊢
  have hl : lv_has ls 3 [(0, .ref (adr a0)), (1, .int x1), (2, .int x2)] := hl
  unfold m_X12_least at h
  have hin12 : ∀ w ∈ u_ws RX12 TX12 54, w ∈ wsX12_least := by decide +kernel
  refine lv_iload_n hx hb dX12_least_0 rfl (lv_at hl 1 rfl) ?_
  refine lv_i2l hx hb dX12_least_1 rfl ?_
  refine lv_lconst (v := (0 : Int64)) hx hb dX12_least_2 (by decide) ?_
  refine lv_lconst (v := (1 : Int64)) hx hb dX12_least_3 (by decide) ?_
  obtain ⟨v4_2919, hc4_2921, h⟩ := sm_bd h
  refine sm_ci (va_runS (As := [.long ((x1).toInt64), .long (0 : Int64), .long (1 : Int64)]) (rest := []) ⟨hx, hb, hml, hown, hts⟩ (k_X12_in l D cA adr hJ ((x1).toInt64) (0 : Int64) (1 : Int64)  M v4_2919 hc4_2921) (va_cwS 3 hts gX12_least_X12_in rfl rfl rfl (by decide +kernel) ⟨Nat.le_of_ble_eq_true rfl, Nat.le_of_ble_eq_true rfl⟩) ⟨smPc_bl, smPc_in [.long ((x1).toInt64), .long (0 : Int64), .long (1 : Int64)] hE hP⟩ rfl rfl hl.1 rfl (lv_room (Nat.le_of_ble_eq_true rfl)) dX12_least_4 ⟨Nat.zero_le _, Nat.zero_le _⟩) hS (fun H locs hP hS => ?_)
  refine lv_if_ne (tgt := 12) hx hb dX12_least_7 (by decide) (fun c7_2922 => ?_) (fun c7_2922 => ?_)
  · rw [if_neg c7_2922] at h
    refine lv_aload_n hx hb dX12_least_12 rfl (lv_at hl 0 rfl) ?_
    refine lv_iload_n hx hb dX12_least_13 rfl (lv_at hl 1 rfl) ?_
    obtain ⟨M14_2924, hc14_2925, h⟩ := sm_bd h
    refine sm_cv (va_runV (As := [.int x1]) (rest := []) ⟨hx, hb, hml, hown, hts⟩ (k_X12_findsLeast l D cA adr hJ a0 x1 ha0 M M14_2924 hc14_2925) (cwV 1 hts gX12_least_X12_findsLeast rfl rfl rfl (by decide +kernel) ⟨Nat.le_of_ble_eq_true rfl, Nat.le_of_ble_eq_true rfl⟩) ⟨smPc_bl, smRv hE hP ha0 rfl (ci := 12) (q := (RX12, TX12, 54)) rfl, smPc_in [.ref (adr a0), .int x1] hE hP⟩ rfl rfl hl.1 rfl (lv_room (Nat.le_of_ble_eq_true rfl)) dX12_least_14 ⟨Nat.zero_le _, Nat.zero_le _⟩) hS (fun H locs hP hS => ?_)
    refine lv_iload_n hx hb dX12_least_17 rfl (lv_at hl 2 rfl) ?_
    refine lv_iconst (v := (-1 : Int32)) hx hb dX12_least_18 (by decide) ?_
    refine lv_icmp_ne (tgt := 29) hx hb dX12_least_19 (by decide) (fun c19_2926 => ?_) (fun c19_2926 => ?_)
    · rw [if_neg c19_2926] at h
      refine lv_iload_n hx hb dX12_least_29 rfl (lv_at hl 2 rfl) ?_
      refine lv_i2l hx hb dX12_least_30 rfl ?_
      refine lv_lconst (v := (0 : Int64)) hx hb dX12_least_31 (by decide) ?_
      refine lv_aload_n hx hb dX12_least_32 rfl (lv_at hl 0 rfl) ?_
      refine sm_get (ci := 12) (C := RX12) (T := TX12) (N := 54) (v := .int (M14_2924 a0 43)) hx hb hts hin12 hown hE hP ha0 rfl rfl 43 (by decide) (hts (.fieldLink RX12 275 "OrderMoverModel" "degree" "I") (by decide +kernel)) (fun _ h9 => h9) rfl dX12_least_33 ?_
      refine lv_i2l hx hb dX12_least_36 rfl ?_
      obtain ⟨v37_2927, hc37_2929, h⟩ := sm_bd h
      refine sm_ci (va_runS (As := [.long ((x2).toInt64), .long (0 : Int64), .long (((M14_2924 a0 43)).toInt64)]) (rest := []) ⟨hx, hb, hml, hown, hts⟩ (k_X12_in l D cA adr hJ ((x2).toInt64) (0 : Int64) (((M14_2924 a0 43)).toInt64)  M14_2924 v37_2927 hc37_2929) (va_cwS 3 hts gX12_least_X12_in rfl rfl rfl (by decide +kernel) ⟨Nat.le_of_ble_eq_true rfl, Nat.le_of_ble_eq_true rfl⟩) ⟨smPc_bl, smPc_in [.long ((x2).toInt64), .long (0 : Int64), .long (((M14_2924 a0 43)).toInt64)] hE hP⟩ rfl rfl hl.1 rfl (lv_room (Nat.le_of_ble_eq_true rfl)) dX12_least_37 ⟨Nat.zero_le _, Nat.zero_le _⟩) hS (fun H locs hP hS => ?_)
      refine lv_if_eq (tgt := 52) hx hb dX12_least_40 (by decide) (fun c40_2930 => ?_) (fun c40_2930 => ?_)
      · rw [if_pos c40_2930] at h
        refine lv_iconst (v := (-1 : Int32)) hx hb dX12_least_52 (by decide) ?_
        cases h
        exact sm_iret hx hb hr hlocks hP hS dX12_least_53
      · rw [if_neg c40_2930] at h
        refine lv_aload_n hx hb dX12_least_43 rfl (lv_at hl 0 rfl) ?_
        refine sm_get (ci := 12) (C := RX12) (T := TX12) (N := 54) (v := .ref (adr (a0 + 32))) hx hb hts hin12 hown hE hP ha0 rfl rfl 42 (by decide) (hts (.fieldLink RX12 120 "OrderMoverModel" "least" "[I") (by decide +kernel)) (fun _ h9 => h9) rfl dX12_least_44 ?_
        refine lv_iload_n hx hb dX12_least_47 rfl (lv_at hl 2 rfl) ?_
        obtain ⟨c48_2931, h⟩ := sm_ck h
        refine sm_iald hx hb hE hP (t12_42 ha0) c48_2931 dX12_least_48 ?_
        refine lv_goto (tgt := 53) hx hb dX12_least_49 (by decide) ?_
        cases h
        exact sm_iret hx hb hr hlocks hP hS dX12_least_53
    · rw [if_pos c19_2926] at h
      refine lv_aload_n hx hb dX12_least_22 rfl (lv_at hl 0 rfl) ?_
      refine sm_get (ci := 12) (C := RX12) (T := TX12) (N := 54) (v := .int (M14_2924 a0 43)) hx hb hts hin12 hown hE hP ha0 rfl rfl 43 (by decide) (hts (.fieldLink RX12 275 "OrderMoverModel" "degree" "I") (by decide +kernel)) (fun _ h9 => h9) rfl dX12_least_23 ?_
      refine lv_goto (tgt := 53) hx hb dX12_least_26 (by decide) ?_
      cases h
      exact sm_iret hx hb hr hlocks hP hS dX12_least_53
  · rw [if_pos c7_2922] at h
    refine lv_iconst (v := (-1 : Int32)) hx hb dX12_least_10 (by decide) ?_
    cases h
    exact sm_iret hx hb hr hlocks hP hS dX12_least_11
set_option maxHeartbeats 4000000 in
set_option maxRecDepth 100000 in
theorem k_X12_member (l : Launch) (D : va_G) (cA : Nat → ClassId) (adr : Nat → Nat) (hJ : smJ 2 adr) (a0 : Nat) (x1 : Int32) (x2 : Int32) (x3 : Int32) (ha0 : smT 2 a0 12) (M : smM) (v1 : Int32) (M1 : smM) (h : m_X12_member a0 x1 x2 x3 M = some (v1, M1)) : Met l yX12_member wsX12_member ({ frames := 6, cells := 0, slots := 0, locals := 139 }) (smPc D cA 2 adr M [.ref (adr a0), .int x1, .int x2, .int x3]) (smQi D cA 2 adr M1 v1) 0 0 (smA 2 adr) := by
  refine Met.ofW (cc := cX12_member) (maxL := 6) (ret := (some .int)) (by decide) rfl ?_
  intro p e s m args below meth c s₁ B hml hv
  obtain ⟨rfl, hE, hP⟩ := hv
  have hx := B.exec
  have hb := B.bytes
  have hr := B.returns
  have hts := atoms_spec (ws := wsX12_member) B.pre
  have hown : s.vm.findClass RX12 = some m.cls := findClass_of_methodNamed B.named
  have hlocks := B.notSynchronized
  have hS : va_S (smA 2 adr) s.heap s.heap [] := va_S.rf
  have hP : smP D cA 2 adr M s.heap := hP
  have hl := lv_entry ([.ref (adr a0), .int x1, .int x2, .int x3]) (n := 6) (Nat.le_of_ble_eq_true rfl)
  rw [lg_entry_eq]
  generalize (lg_sl ([.ref (adr a0), .int x1, .int x2, .int x3]) ++ List.replicate (6 - (lg_sl ([.ref (adr a0), .int x1, .int x2, .int x3])).length) Slot.unset).toArray = ls at hl ⊢
  have hl : lv_has ls 6 [(0, .ref (adr a0)), (1, .int x1), (2, .int x2), (3, .int x3)] := hl
  unfold m_X12_member at h
  have hin12 : ∀ w ∈ u_ws RX12 TX12 54, w ∈ wsX12_member := by decide +kernel
  refine lv_aload_n hx hb dX12_member_0 rfl (lv_at hl 0 rfl) ?_
  refine lv_iload_n hx hb dX12_member_1 rfl (lv_at hl 1 rfl) ?_
  obtain ⟨v2_2932, hc2_2934, h⟩ := sm_bd h
  refine sm_ci (va_runV (As := [.int x1]) (rest := []) ⟨hx, hb, hml, hown, hts⟩ (k_X12_isOrder l D cA adr hJ a0 x1 ha0 M v2_2932 hc2_2934) (cwV 1 hts gX12_member_X12_isOrder rfl rfl rfl (by decide +kernel) ⟨Nat.le_of_ble_eq_true rfl, Nat.le_of_ble_eq_true rfl⟩) ⟨smPc_bl, smRv hE hP ha0 rfl (ci := 12) (q := (RX12, TX12, 54)) rfl, smPc_in [.ref (adr a0), .int x1] hE hP⟩ rfl rfl hl.1 rfl (lv_room (Nat.le_of_ble_eq_true rfl)) dX12_member_2 ⟨Nat.zero_le _, Nat.zero_le _⟩) hS (fun H locs hP hS => ?_)
  refine lv_if_eq (tgt := 20) hx hb dX12_member_5 (by decide) (fun c5_2935 => ?_) (fun c5_2935 => ?_)
  · rw [if_pos c5_2935] at h
    refine lv_iconst (v := (-1 : Int32)) hx hb dX12_member_20 (by decide) ?_
    cases h
    exact sm_iret hx hb hr hlocks hP hS dX12_member_21
  · rw [if_neg c5_2935] at h
    refine lv_iload_n hx hb dX12_member_8 rfl (lv_at hl 3 rfl) ?_
    refine lv_i2l hx hb dX12_member_9 rfl ?_
    refine lv_lconst (v := (0 : Int64)) hx hb dX12_member_10 (by decide) ?_
    refine lv_ldc2 (v := (2 : Int64)) hx hb hown (hts (.constantLong RX12 151 (2)) (by decide +kernel)) dX12_member_11 ?_
    obtain ⟨v14_2936, hc14_2938, h⟩ := sm_bd h
    refine sm_ci (va_runS (As := [.long ((x3).toInt64), .long (0 : Int64), .long (2 : Int64)]) (rest := []) ⟨hx, hb, hml, hown, hts⟩ (k_X12_in l D cA adr hJ ((x3).toInt64) (0 : Int64) (2 : Int64)  M v14_2936 hc14_2938) (va_cwS 3 hts gX12_member_X12_in rfl rfl rfl (by decide +kernel) ⟨Nat.le_of_ble_eq_true rfl, Nat.le_of_ble_eq_true rfl⟩) ⟨smPc_bl, smPc_in [.long ((x3).toInt64), .long (0 : Int64), .long (2 : Int64)] hE hP⟩ rfl rfl hl.1 rfl (lv_room (Nat.le_of_ble_eq_true rfl)) dX12_member_14 ⟨Nat.zero_le _, Nat.zero_le _⟩) hS (fun H locs hP hS => ?_)
    refine lv_if_ne (tgt := 22) hx hb dX12_member_17 (by decide) (fun c17_2939 => ?_) (fun c17_2939 => ?_)
    · rw [if_neg c17_2939] at h
      refine lv_aload_n hx hb dX12_member_22 rfl (lv_at hl 0 rfl) ?_
      refine lv_iload_n hx hb dX12_member_23 rfl (lv_at hl 1 rfl) ?_
      obtain ⟨M24_2941, hc24_2942, h⟩ := sm_bd h
      refine sm_cv (va_runV (As := [.int x1]) (rest := []) ⟨hx, hb, hml, hown, hts⟩ (k_X12_walksNow l D cA adr hJ a0 x1 ha0 M M24_2941 hc24_2942) (cwV 1 hts gX12_member_X12_walksNow rfl rfl rfl (by decide +kernel) ⟨Nat.le_of_ble_eq_true rfl, Nat.le_of_ble_eq_true rfl⟩) ⟨smPc_bl, smRv hE hP ha0 rfl (ci := 12) (q := (RX12, TX12, 54)) rfl, smPc_in [.ref (adr a0), .int x1] hE hP⟩ rfl rfl hl.1 rfl (lv_room (Nat.le_of_ble_eq_true rfl)) dX12_member_24 ⟨Nat.zero_le _, Nat.zero_le _⟩) hS (fun H locs hP hS => ?_)
      refine lv_iload_n hx hb dX12_member_27 rfl (lv_at hl 2 rfl) ?_
      refine lv_i2l hx hb dX12_member_28 rfl ?_
      refine lv_lconst (v := (0 : Int64)) hx hb dX12_member_29 (by decide) ?_
      refine lv_aload_n hx hb dX12_member_30 rfl (lv_at hl 0 rfl) ?_
      refine sm_get (ci := 12) (C := RX12) (T := TX12) (N := 54) (v := .int (M24_2941 a0 34)) hx hb hts hin12 hown hE hP ha0 rfl rfl 34 (by decide) (hts (.fieldLink RX12 230 "OrderMoverModel" "members" "I") (by decide +kernel)) (fun _ h9 => h9) rfl dX12_member_31 ?_
      refine lv_iconst (v := (1 : Int32)) hx hb dX12_member_34 (by decide) ?_
      refine lv_isub hx hb dX12_member_35 ?_
      refine lv_i2l hx hb dX12_member_36 rfl ?_
      obtain ⟨v37_2943, hc37_2945, h⟩ := sm_bd h
      refine sm_ci (va_runS (As := [.long ((x2).toInt64), .long (0 : Int64), .long ((((M24_2941 a0 34) - (1 : Int32))).toInt64)]) (rest := []) ⟨hx, hb, hml, hown, hts⟩ (k_X12_in l D cA adr hJ ((x2).toInt64) (0 : Int64) ((((M24_2941 a0 34) - (1 : Int32))).toInt64)  M24_2941 v37_2943 hc37_2945) (va_cwS 3 hts gX12_member_X12_in rfl rfl rfl (by decide +kernel) ⟨Nat.le_of_ble_eq_true rfl, Nat.le_of_ble_eq_true rfl⟩) ⟨smPc_bl, smPc_in [.long ((x2).toInt64), .long (0 : Int64), .long ((((M24_2941 a0 34) - (1 : Int32))).toInt64)] hE hP⟩ rfl rfl hl.1 rfl (lv_room (Nat.le_of_ble_eq_true rfl)) dX12_member_37 ⟨Nat.zero_le _, Nat.zero_le _⟩) hS (fun H locs hP hS => ?_)
      refine lv_if_ne (tgt := 45) hx hb dX12_member_40 (by decide) (fun c40_2946 => ?_) (fun c40_2946 => ?_)
      · rw [if_neg c40_2946] at h
        refine lv_iconst (v := (1 : Int32)) hx hb dX12_member_45 (by decide) ?_
        refine lv_istore (lv' := [(4, .int (1 : Int32)), (0, .ref (adr a0)), (1, .int x1), (2, .int x2), (3, .int x3)]) hx hb dX12_member_46 hl (by decide) rfl (fun ls hl => ?_)
        refine lv_iconst (v := (0 : Int32)) hx hb dX12_member_48 (by decide) ?_
        refine lv_istore (lv' := [(5, .int (0 : Int32)), (4, .int (1 : Int32)), (0, .ref (adr a0)), (1, .int x1), (2, .int x2), (3, .int x3)]) hx hb dX12_member_49 hl (by decide) rfl (fun ls hl => ?_)
        refine sm_lp (b := fun rc q => m_X12_member_b51 a0 x2 x3 M24_2941 rc q.1 q.2) (P := fun (q : Int32 × Int32) H locs ls => smP D cA 2 adr M24_2941 H ∧ va_S (smA 2 adr) s.heap H locs ∧ lv_has ls 6 [(0, .ref (adr a0)), (2, .int x2), (3, .int x3), (4, .int q.1), (5, .int q.2)]) (pc := 51) ?_ _ _ _ _ _ h ⟨hP, hS, lv_sub hl [2, 4, 5, 1, 0] rfl⟩
        intro rc51_2949 ih51_2950 q H locs ls h hI
        obtain ⟨x4_51_2947, x5_51_2948⟩ := q
        obtain ⟨hP, hS, hl⟩ := hI
        have hP : smP D cA 2 adr M24_2941 H := hP
        have hl : lv_has ls 6 [(0, .ref (adr a0)), (2, .int x2), (3, .int x3), (4, .int x4_51_2947), (5, .int x5_51_2948)] := hl
        have h : m_X12_member_b51 a0 x2 x3 M24_2941 rc51_2949 x4_51_2947 x5_51_2948 = some _ := h
        unfold m_X12_member_b51 at h
        refine lv_iload hx hb dX12_member_51 (lv_at hl 4 rfl) ?_
        refine lv_aload_n hx hb dX12_member_53 rfl (lv_at hl 0 rfl) ?_
        refine sm_get (ci := 12) (C := RX12) (T := TX12) (N := 54) (v := .int (M24_2941 a0 29)) hx hb hts hin12 hown hE hP ha0 rfl rfl 29 (by decide) (hts (.fieldLink RX12 220 "OrderMoverModel" "stairs" "I") (by decide +kernel)) (fun _ h9 => h9) rfl dX12_member_54 ?_
        refine lv_icmp_ge (tgt := 91) hx hb dX12_member_57 (by decide) (fun c57_2951 => ?_) (fun c57_2951 => ?_)
        · rw [if_pos c57_2951] at h
          refine lv_iload_n hx hb dX12_member_91 rfl (lv_at hl 2 rfl) ?_
          refine lv_if_ne (tgt := 104) hx hb dX12_member_92 (by decide) (fun c92_2952 => ?_) (fun c92_2952 => ?_)
          · rw [if_neg c92_2952] at h
            refine lv_iload_n hx hb dX12_member_104 rfl (lv_at hl 2 rfl) ?_
            refine lv_iconst (v := (1 : Int32)) hx hb dX12_member_105 (by decide) ?_
            refine lv_icmp_ne (tgt := 118) hx hb dX12_member_106 (by decide) (fun c106_2953 => ?_) (fun c106_2953 => ?_)
            · rw [if_neg c106_2953] at h
              refine lv_iload hx hb dX12_member_118 (lv_at hl 3 rfl) ?_
              cases h
              exact sm_iret hx hb hr hlocks hP hS dX12_member_120
            · rw [if_pos c106_2953] at h
              refine lv_aload_n hx hb dX12_member_109 rfl (lv_at hl 0 rfl) ?_
              refine sm_get (ci := 12) (C := RX12) (T := TX12) (N := 54) (v := .ref (adr (a0 + 27))) hx hb hts hin12 hown hE hP ha0 rfl rfl 36 (by decide) (hts (.fieldLink RX12 105 "OrderMoverModel" "memberJ" "[I") (by decide +kernel)) (fun _ h9 => h9) rfl dX12_member_110 ?_
              refine lv_iload_n hx hb dX12_member_113 rfl (lv_at hl 1 rfl) ?_
              obtain ⟨c114_2954, h⟩ := sm_ck h
              refine sm_iald hx hb hE hP (t12_36 ha0) c114_2954 dX12_member_114 ?_
              refine lv_goto (tgt := 120) hx hb dX12_member_115 (by decide) ?_
              cases h
              exact sm_iret hx hb hr hlocks hP hS dX12_member_120
          · rw [if_pos c92_2952] at h
            refine lv_aload_n hx hb dX12_member_95 rfl (lv_at hl 0 rfl) ?_
            refine sm_get (ci := 12) (C := RX12) (T := TX12) (N := 54) (v := .ref (adr (a0 + 26))) hx hb hts hin12 hown hE hP ha0 rfl rfl 35 (by decide) (hts (.fieldLink RX12 102 "OrderMoverModel" "memberI" "[I") (by decide +kernel)) (fun _ h9 => h9) rfl dX12_member_96 ?_
            refine lv_iload_n hx hb dX12_member_99 rfl (lv_at hl 1 rfl) ?_
            obtain ⟨c100_2955, h⟩ := sm_ck h
            refine sm_iald hx hb hE hP (t12_35 ha0) c100_2955 dX12_member_100 ?_
            refine lv_goto (tgt := 120) hx hb dX12_member_101 (by decide) ?_
            cases h
            exact sm_iret hx hb hr hlocks hP hS dX12_member_120
        · rw [if_neg c57_2951] at h
          refine lv_iload hx hb dX12_member_60 (lv_at hl 3 rfl) ?_
          refine lv_aload_n hx hb dX12_member_62 rfl (lv_at hl 0 rfl) ?_
          refine sm_get (ci := 12) (C := RX12) (T := TX12) (N := 54) (v := .ref (adr (a0 + 28))) hx hb hts hin12 hown hE hP ha0 rfl rfl 37 (by decide) (hts (.fieldLink RX12 108 "OrderMoverModel" "tails" "[I") (by decide +kernel)) (fun _ h9 => h9) rfl dX12_member_63 ?_
          refine lv_bipush (v := (9 : Int32)) hx hb dX12_member_66 (by decide) ?_
          refine lv_iload_n hx hb dX12_member_68 rfl (lv_at hl 1 rfl) ?_
          refine lv_imul hx hb dX12_member_69 ?_
          refine lv_iload hx hb dX12_member_70 (lv_at hl 4 rfl) ?_
          refine lv_iadd hx hb dX12_member_72 ?_
          obtain ⟨c73_2956, h⟩ := sm_ck h
          refine sm_iald hx hb hE hP (t12_37 ha0) c73_2956 dX12_member_73 ?_
          refine lv_if_eq (tgt := 81) hx hb dX12_member_74 (by decide) (fun c74_2957 => ?_) (fun c74_2957 => ?_)
          · rw [if_pos c74_2957] at h
            refine lv_iconst (v := (0 : Int32)) hx hb dX12_member_81 (by decide) ?_
            refine lv_iadd hx hb dX12_member_82 ?_
            refine lv_istore (lv' := [(4, .int (x4_51_2947 + (0 : Int32))), (0, .ref (adr a0)), (2, .int x2), (3, .int x3), (5, .int x5_51_2948)]) hx hb dX12_member_83 hl (by decide) rfl (fun ls hl => ?_)
            refine lv_iinc (v := (x5_51_2948 + (1 : Int32))) (lv' := [(5, .int (x5_51_2948 + (1 : Int32))), (4, .int (x4_51_2947 + (0 : Int32))), (0, .ref (adr a0)), (2, .int x2), (3, .int x3)]) hx hb dX12_member_85 hl (k := 4) rfl (congrArg (fun z => x5_51_2948 + z) (by decide)) (by decide) rfl (fun ls hl => ?_)
            refine lv_goto (tgt := 51) hx hb dX12_member_88 (by decide) ?_
            exact ih51_2950 ((x4_51_2947 + (0 : Int32)), (x5_51_2948 + (1 : Int32))) _ _ _ h ⟨hP, hS, lv_sub hl [2, 3, 4, 1, 0] rfl⟩
          · rw [if_neg c74_2957] at h
            refine lv_iconst (v := (1 : Int32)) hx hb dX12_member_77 (by decide) ?_
            refine lv_goto (tgt := 82) hx hb dX12_member_78 (by decide) ?_
            refine lv_iadd hx hb dX12_member_82 ?_
            refine lv_istore (lv' := [(4, .int (x4_51_2947 + (1 : Int32))), (0, .ref (adr a0)), (2, .int x2), (3, .int x3), (5, .int x5_51_2948)]) hx hb dX12_member_83 hl (by decide) rfl (fun ls hl => ?_)
            refine lv_iinc (v := (x5_51_2948 + (1 : Int32))) (lv' := [(5, .int (x5_51_2948 + (1 : Int32))), (4, .int (x4_51_2947 + (1 : Int32))), (0, .ref (adr a0)), (2, .int x2), (3, .int x3)]) hx hb dX12_member_85 hl (k := 4) rfl (congrArg (fun z => x5_51_2948 + z) (by decide)) (by decide) rfl (fun ls hl => ?_)
            refine lv_goto (tgt := 51) hx hb dX12_member_88 (by decide) ?_
            exact ih51_2950 ((x4_51_2947 + (1 : Int32)), (x5_51_2948 + (1 : Int32))) _ _ _ h ⟨hP, hS, lv_sub hl [2, 3, 4, 1, 0] rfl⟩
      · rw [if_pos c40_2946] at h
        refine lv_iconst (v := (-1 : Int32)) hx hb dX12_member_43 (by decide) ?_
        cases h
        exact sm_iret hx hb hr hlocks hP hS dX12_member_44
    · rw [if_pos c17_2939] at h
      refine lv_iconst (v := (-1 : Int32)) hx hb dX12_member_20 (by decide) ?_
      cases h
      exact sm_iret hx hb hr hlocks hP hS dX12_member_21
