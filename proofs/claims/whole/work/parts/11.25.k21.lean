set_option maxHeartbeats 4000000 in
set_option maxRecDepth 100000 in
theorem k_X12_normal (l : Launch) (D : va_G) (cA : Nat → ClassId) (adr : Nat → Nat) (hJ : smJ 2 adr) (a0 : Nat) (x1 : Int32) (x2 : Int32) (x3 : Int32) (x4 : Int32) (ha0 : smT 2 a0 12) (M : smM) (v1 : Int32) (M1 : smM) (h : m_X12_normal a0 x1 x2 x3 x4 M = some (v1, M1)) : Met l yX12_normal wsX12_normal ({ frames := 6, cells := 0, slots := 0, locals := 139 }) (smPc D cA 2 adr M [.ref (adr a0), .int x1, .int x2, .int x3, .int x4]) (smQi D cA 2 adr M1 v1) 0 0 (smA 2 adr) := by
  refine Met.ofW (cc := cX12_normal) (maxL := 6) (ret := (some .int)) (by decide) rfl ?_
  intro p e s m args below meth c s₁ B hml hv
  obtain ⟨rfl, hE, hP⟩ := hv
  have hx := B.exec
  have hb := B.bytes
  have hr := B.returns
  have hts := atoms_spec (ws := wsX12_normal) B.pre
  have hown : s.vm.findClass RX12 = some m.cls := findClass_of_methodNamed B.named
  have hlocks := B.notSynchronized
  have hS : va_S (smA 2 adr) s.heap s.heap [] := va_S.rf
  have hP : smP D cA 2 adr M s.heap := hP
  have hl := lv_entry ([.ref (adr a0), .int x1, .int x2, .int x3, .int x4]) (n := 6) (Nat.le_of_ble_eq_true rfl)
  rw [lg_entry_eq]
  generalize (lg_sl ([.ref (adr a0), .int x1, .int x2, .int x3, .int x4]) ++ List.replicate (6 - (lg_sl ([.ref (adr a0), .int x1, .int x2, .int x3, .int x4])).length) Slot.unset).toArray = ls at hl ⊢
  have hl : lv_has ls 6 [(0, .ref (adr a0)), (1, .int x1), (2, .int x2), (3, .int x3), (4, .int x4)] := hl
  unfold m_X12_normal at h
  have hin12 : ∀ w ∈ u_ws RX12 TX12 54, w ∈ wsX12_normal := by decide +kernel
  refine lv_aload_n hx hb dX12_normal_0 rfl (lv_at hl 0 rfl) ?_
  refine lv_iload_n hx hb dX12_normal_1 rfl (lv_at hl 1 rfl) ?_
  obtain ⟨v2_2958, hc2_2960, h⟩ := sm_bd h
  refine sm_ci (va_runV (As := [.int x1]) (rest := []) ⟨hx, hb, hml, hown, hts⟩ (k_X12_isOrder l D cA adr hJ a0 x1 ha0 M v2_2958 hc2_2960) (cwV 1 hts gX12_normal_X12_isOrder rfl rfl rfl (by decide +kernel) ⟨Nat.le_of_ble_eq_true rfl, Nat.le_of_ble_eq_true rfl⟩) ⟨smPc_bl, smRv hE hP ha0 rfl (ci := 12) (q := (RX12, TX12, 54)) rfl, smPc_in [.ref (adr a0), .int x1] hE hP⟩ rfl rfl hl.1 rfl (lv_room (Nat.le_of_ble_eq_true rfl)) dX12_normal_2 ⟨Nat.zero_le _, Nat.zero_le _⟩) hS (fun H locs hP hS => ?_)
  refine lv_if_eq (tgt := 33) hx hb dX12_normal_5 (by decide) (fun c5_2961 => ?_) (fun c5_2961 => ?_)
  · rw [if_pos c5_2961] at h
    refine lv_iconst (v := (-1 : Int32)) hx hb dX12_normal_33 (by decide) ?_
    cases h
    exact sm_iret hx hb hr hlocks hP hS dX12_normal_34
  · rw [if_neg c5_2961] at h
    refine lv_iload_n hx hb dX12_normal_8 rfl (lv_at hl 2 rfl) ?_
    refine lv_if_lt (tgt := 33) hx hb dX12_normal_9 (by decide) (fun c9_2962 => ?_) (fun c9_2962 => ?_)
    · rw [if_pos c9_2962] at h
      refine lv_iconst (v := (-1 : Int32)) hx hb dX12_normal_33 (by decide) ?_
      cases h
      exact sm_iret hx hb hr hlocks hP hS dX12_normal_34
    · rw [if_neg c9_2962] at h
      refine lv_iload_n hx hb dX12_normal_12 rfl (lv_at hl 3 rfl) ?_
      refine lv_if_lt (tgt := 33) hx hb dX12_normal_13 (by decide) (fun c13_2963 => ?_) (fun c13_2963 => ?_)
      · rw [if_pos c13_2963] at h
        refine lv_iconst (v := (-1 : Int32)) hx hb dX12_normal_33 (by decide) ?_
        cases h
        exact sm_iret hx hb hr hlocks hP hS dX12_normal_34
      · rw [if_neg c13_2963] at h
        refine lv_iload hx hb dX12_normal_16 (lv_at hl 4 rfl) ?_
        refine lv_i2l hx hb dX12_normal_18 rfl ?_
        refine lv_lconst (v := (0 : Int64)) hx hb dX12_normal_19 (by decide) ?_
        refine lv_aload_n hx hb dX12_normal_20 rfl (lv_at hl 0 rfl) ?_
        obtain ⟨v21_2964, hc21_2966, h⟩ := sm_bd h
        refine sm_ci (va_runV (As := []) (rest := [.long (0 : Int64), .long ((x4).toInt64)]) ⟨hx, hb, hml, hown, hts⟩ (k_X12_dimension l D cA adr hJ a0 ha0 M v21_2964 hc21_2966) (cwV 0 hts gX12_normal_X12_dimension rfl rfl rfl (by decide +kernel) ⟨Nat.le_of_ble_eq_true rfl, Nat.le_of_ble_eq_true rfl⟩) ⟨smPc_bl, smRv hE hP ha0 rfl (ci := 12) (q := (RX12, TX12, 54)) rfl, smPc_in [.ref (adr a0)] hE hP⟩ rfl rfl hl.1 rfl (lv_room (Nat.le_of_ble_eq_true rfl)) dX12_normal_21 ⟨Nat.zero_le _, Nat.zero_le _⟩) hS (fun H locs hP hS => ?_)
        refine lv_iconst (v := (1 : Int32)) hx hb dX12_normal_24 (by decide) ?_
        refine lv_isub hx hb dX12_normal_25 ?_
        refine lv_i2l hx hb dX12_normal_26 rfl ?_
        obtain ⟨v27_2967, hc27_2969, h⟩ := sm_bd h
        refine sm_ci (va_runS (As := [.long ((x4).toInt64), .long (0 : Int64), .long (((v21_2964 - (1 : Int32))).toInt64)]) (rest := []) ⟨hx, hb, hml, hown, hts⟩ (k_X12_in l D cA adr hJ ((x4).toInt64) (0 : Int64) (((v21_2964 - (1 : Int32))).toInt64)  M v27_2967 hc27_2969) (va_cwS 3 hts gX12_normal_X12_in rfl rfl rfl (by decide +kernel) ⟨Nat.le_of_ble_eq_true rfl, Nat.le_of_ble_eq_true rfl⟩) ⟨smPc_bl, smPc_in [.long ((x4).toInt64), .long (0 : Int64), .long (((v21_2964 - (1 : Int32))).toInt64)] hE hP⟩ rfl rfl hl.1 rfl (lv_room (Nat.le_of_ble_eq_true rfl)) dX12_normal_27 ⟨Nat.zero_le _, Nat.zero_le _⟩) hS (fun H locs hP hS => ?_)
        refine lv_if_ne (tgt := 35) hx hb dX12_normal_30 (by decide) (fun c30_2970 => ?_) (fun c30_2970 => ?_)
        · rw [if_neg c30_2970] at h
          refine lv_aload_n hx hb dX12_normal_35 rfl (lv_at hl 0 rfl) ?_
          refine lv_iload_n hx hb dX12_normal_36 rfl (lv_at hl 1 rfl) ?_
          obtain ⟨M37_2972, hc37_2973, h⟩ := sm_bd h
          refine sm_cv (va_runV (As := [.int x1]) (rest := []) ⟨hx, hb, hml, hown, hts⟩ (k_X12_walksNow l D cA adr hJ a0 x1 ha0 M M37_2972 hc37_2973) (cwV 1 hts gX12_normal_X12_walksNow rfl rfl rfl (by decide +kernel) ⟨Nat.le_of_ble_eq_true rfl, Nat.le_of_ble_eq_true rfl⟩) ⟨smPc_bl, smRv hE hP ha0 rfl (ci := 12) (q := (RX12, TX12, 54)) rfl, smPc_in [.ref (adr a0), .int x1] hE hP⟩ rfl rfl hl.1 rfl (lv_room (Nat.le_of_ble_eq_true rfl)) dX12_normal_37 ⟨Nat.zero_le _, Nat.zero_le _⟩) hS (fun H locs hP hS => ?_)
          refine lv_aload_n hx hb dX12_normal_40 rfl (lv_at hl 0 rfl) ?_
          refine lv_iload_n hx hb dX12_normal_41 rfl (lv_at hl 2 rfl) ?_
          refine lv_iload_n hx hb dX12_normal_42 rfl (lv_at hl 3 rfl) ?_
          obtain ⟨M43_2975, hc43_2976, h⟩ := sm_bd h
          refine sm_cv (va_runV (As := [.int x2, .int x3]) (rest := []) ⟨hx, hb, hml, hown, hts⟩ (k_X12_formOf l D cA adr hJ a0 x2 x3 ha0 M37_2972 M43_2975 hc43_2976) (cwV 2 hts gX12_normal_X12_formOf rfl rfl rfl (by decide +kernel) ⟨Nat.le_of_ble_eq_true rfl, Nat.le_of_ble_eq_true rfl⟩) ⟨smPc_bl, smRv hE hP ha0 rfl (ci := 12) (q := (RX12, TX12, 54)) rfl, smPc_in [.ref (adr a0), .int x2, .int x3] hE hP⟩ rfl rfl hl.1 rfl (lv_room (Nat.le_of_ble_eq_true rfl)) dX12_normal_43 ⟨Nat.zero_le _, Nat.zero_le _⟩) hS (fun H locs hP hS => ?_)
          refine lv_aload_n hx hb dX12_normal_46 rfl (lv_at hl 0 rfl) ?_
          obtain ⟨v47_2977, M47_2978, hc47_2979, h⟩ := sm_bd2 h
          refine sm_ci (va_runV (As := []) (rest := []) ⟨hx, hb, hml, hown, hts⟩ (k_X12_isLeft l D cA adr hJ a0 ha0 M43_2975 v47_2977 M47_2978 hc47_2979) (cwV 0 hts gX12_normal_X12_isLeft rfl rfl rfl (by decide +kernel) ⟨Nat.le_of_ble_eq_true rfl, Nat.le_of_ble_eq_true rfl⟩) ⟨smPc_bl, smRv hE hP ha0 rfl (ci := 12) (q := (RX12, TX12, 54)) rfl, smPc_in [.ref (adr a0)] hE hP⟩ rfl rfl hl.1 rfl (lv_room (Nat.le_of_ble_eq_true rfl)) dX12_normal_47 ⟨Nat.zero_le _, Nat.zero_le _⟩) hS (fun H locs hP hS => ?_)
          refine lv_istore (lv' := [(5, .int v47_2977), (0, .ref (adr a0)), (1, .int x1), (2, .int x2), (3, .int x3), (4, .int x4)]) hx hb dX12_normal_50 hl (by decide) rfl (fun ls hl => ?_)
          refine lv_iload hx hb dX12_normal_52 (lv_at hl 0 rfl) ?_
          refine lv_bipush (v := (-4 : Int32)) hx hb dX12_normal_54 (by decide) ?_
          refine lv_icmp_ne (tgt := 75) hx hb dX12_normal_56 (by decide) (fun c56_2980 => ?_) (fun c56_2980 => ?_)
          · rw [if_neg c56_2980] at h
            refine lv_iconst (v := (-1 : Int32)) hx hb dX12_normal_75 (by decide) ?_
            cases h
            exact sm_iret hx hb hr hlocks hP hS dX12_normal_76
          · rw [if_pos c56_2980] at h
            refine lv_aload_n hx hb dX12_normal_59 rfl (lv_at hl 1 rfl) ?_
            refine lv_aload_n hx hb dX12_normal_60 rfl (lv_at hl 1 rfl) ?_
            refine sm_get (ci := 12) (C := RX12) (T := TX12) (N := 54) (v := .ref (adr (a0 + 31))) hx hb hts hin12 hown hE hP ha0 rfl rfl 41 (by decide) (hts (.fieldLink RX12 117 "OrderMoverModel" "made" "[I") (by decide +kernel)) (fun _ h9 => h9) rfl dX12_normal_61 ?_
            refine lv_iload hx hb dX12_normal_64 (lv_at hl 5 rfl) ?_
            obtain ⟨c66_2981, h⟩ := sm_ck h
            refine sm_iald hx hb hE hP (t12_41 ha0) c66_2981 dX12_normal_66 ?_
            refine lv_ineg hx hb dX12_normal_67 ?_
            refine lv_i2l hx hb dX12_normal_68 rfl ?_
            obtain ⟨v69_2982, hc69_2984, h⟩ := sm_bd h
            refine sm_ci (va_runV (As := [.long (((-(M47_2978 (a0 + 31) (x4).toNatClampNeg))).toInt64)]) (rest := []) ⟨hx, hb, hml, hown, hts⟩ (k_X12_mod l D cA adr hJ a0 (((-(M47_2978 (a0 + 31) (x4).toNatClampNeg))).toInt64) ha0 M47_2978 v69_2982 hc69_2984) (cwV 1 hts gX12_normal_X12_mod rfl rfl rfl (by decide +kernel) ⟨Nat.le_of_ble_eq_true rfl, Nat.le_of_ble_eq_true rfl⟩) ⟨smPc_bl, smRv hE hP ha0 rfl (ci := 12) (q := (RX12, TX12, 54)) rfl, smPc_in [.ref (adr a0), .long (((-(M47_2978 (a0 + 31) (x4).toNatClampNeg))).toInt64)] hE hP⟩ rfl rfl hl.1 rfl (lv_room (Nat.le_of_ble_eq_true rfl)) dX12_normal_69 ⟨Nat.zero_le _, Nat.zero_le _⟩) hS (fun H locs hP hS => ?_)
            refine lv_goto (tgt := 76) hx hb dX12_normal_72 (by decide) ?_
            cases h
            exact sm_iret hx hb hr hlocks hP hS dX12_normal_76
        · rw [if_pos c30_2970] at h
          refine lv_iconst (v := (-1 : Int32)) hx hb dX12_normal_33 (by decide) ?_
          cases h
          exact sm_iret hx hb hr hlocks hP hS dX12_normal_34
set_option maxHeartbeats 4000000 in
set_option maxRecDepth 100000 in
theorem k_X12_place (l : Launch) (D : va_G) (cA : Nat → ClassId) (adr : Nat → Nat) (hJ : smJ 2 adr) (a0 : Nat) (x1 : Int32) (x2 : Int32) (x3 : Int32) (ha0 : smT 2 a0 12) (M : smM) (v1 : Int32) (M1 : smM) (h : m_X12_place a0 x1 x2 x3 M = some (v1, M1)) : Met l yX12_place wsX12_place ({ frames := 6, cells := 0, slots := 0, locals := 139 }) (smPc D cA 2 adr M [.ref (adr a0), .int x1, .int x2, .int x3]) (smQi D cA 2 adr M1 v1) 0 0 (smA 2 adr) := by
  refine Met.ofW (cc := cX12_place) (maxL := 5) (ret := (some .int)) (by decide) rfl ?_
  intro p e s m args below meth c s₁ B hml hv
  obtain ⟨rfl, hE, hP⟩ := hv
  have hx := B.exec
  have hb := B.bytes
  have hr := B.returns
  have hts := atoms_spec (ws := wsX12_place) B.pre
  have hown : s.vm.findClass RX12 = some m.cls := findClass_of_methodNamed B.named
  have hlocks := B.notSynchronized
  have hS : va_S (smA 2 adr) s.heap s.heap [] := va_S.rf
  have hP : smP D cA 2 adr M s.heap := hP
  have hl := lv_entry ([.ref (adr a0), .int x1, .int x2, .int x3]) (n := 5) (Nat.le_of_ble_eq_true rfl)
  rw [lg_entry_eq]
  generalize (lg_sl ([.ref (adr a0), .int x1, .int x2, .int x3]) ++ List.replicate (5 - (lg_sl ([.ref (adr a0), .int x1, .int x2, .int x3])).length) Slot.unset).toArray = ls at hl ⊢
  have hl : lv_has ls 5 [(0, .ref (adr a0)), (1, .int x1), (2, .int x2), (3, .int x3)] := hl
  unfold m_X12_place at h
  have hin12 : ∀ w ∈ u_ws RX12 TX12 54, w ∈ wsX12_place := by decide +kernel
  refine lv_aload_n hx hb dX12_place_0 rfl (lv_at hl 0 rfl) ?_
  refine lv_iload_n hx hb dX12_place_1 rfl (lv_at hl 1 rfl) ?_
  obtain ⟨v2_2985, hc2_2987, h⟩ := sm_bd h
  refine sm_ci (va_runV (As := [.int x1]) (rest := []) ⟨hx, hb, hml, hown, hts⟩ (k_X12_isOrder l D cA adr hJ a0 x1 ha0 M v2_2985 hc2_2987) (cwV 1 hts gX12_place_X12_isOrder rfl rfl rfl (by decide +kernel) ⟨Nat.le_of_ble_eq_true rfl, Nat.le_of_ble_eq_true rfl⟩) ⟨smPc_bl, smRv hE hP ha0 rfl (ci := 12) (q := (RX12, TX12, 54)) rfl, smPc_in [.ref (adr a0), .int x1] hE hP⟩ rfl rfl hl.1 rfl (lv_room (Nat.le_of_ble_eq_true rfl)) dX12_place_2 ⟨Nat.zero_le _, Nat.zero_le _⟩) hS (fun H locs hP hS => ?_)
  refine lv_if_eq (tgt := 16) hx hb dX12_place_5 (by decide) (fun c5_2988 => ?_) (fun c5_2988 => ?_)
  · rw [if_pos c5_2988] at h
    refine lv_iconst (v := (-1 : Int32)) hx hb dX12_place_16 (by decide) ?_
    cases h
    exact sm_iret hx hb hr hlocks hP hS dX12_place_17
  · rw [if_neg c5_2988] at h
    refine lv_iload_n hx hb dX12_place_8 rfl (lv_at hl 2 rfl) ?_
    refine lv_if_lt (tgt := 16) hx hb dX12_place_9 (by decide) (fun c9_2989 => ?_) (fun c9_2989 => ?_)
    · rw [if_pos c9_2989] at h
      refine lv_iconst (v := (-1 : Int32)) hx hb dX12_place_16 (by decide) ?_
      cases h
      exact sm_iret hx hb hr hlocks hP hS dX12_place_17
    · rw [if_neg c9_2989] at h
      refine lv_iload_n hx hb dX12_place_12 rfl (lv_at hl 3 rfl) ?_
      refine lv_if_ge (tgt := 18) hx hb dX12_place_13 (by decide) (fun c13_2990 => ?_) (fun c13_2990 => ?_)
      · rw [if_pos c13_2990] at h
        refine lv_aload_n hx hb dX12_place_18 rfl (lv_at hl 0 rfl) ?_
        refine lv_iload_n hx hb dX12_place_19 rfl (lv_at hl 1 rfl) ?_
        obtain ⟨M20_2992, hc20_2993, h⟩ := sm_bd h
        refine sm_cv (va_runV (As := [.int x1]) (rest := []) ⟨hx, hb, hml, hown, hts⟩ (k_X12_walksNow l D cA adr hJ a0 x1 ha0 M M20_2992 hc20_2993) (cwV 1 hts gX12_place_X12_walksNow rfl rfl rfl (by decide +kernel) ⟨Nat.le_of_ble_eq_true rfl, Nat.le_of_ble_eq_true rfl⟩) ⟨smPc_bl, smRv hE hP ha0 rfl (ci := 12) (q := (RX12, TX12, 54)) rfl, smPc_in [.ref (adr a0), .int x1] hE hP⟩ rfl rfl hl.1 rfl (lv_room (Nat.le_of_ble_eq_true rfl)) dX12_place_20 ⟨Nat.zero_le _, Nat.zero_le _⟩) hS (fun H locs hP hS => ?_)
        refine lv_iconst (v := (0 : Int32)) hx hb dX12_place_23 (by decide) ?_
        refine lv_istore (lv' := [(4, .int (0 : Int32)), (0, .ref (adr a0)), (1, .int x1), (2, .int x2), (3, .int x3)]) hx hb dX12_place_24 hl (by decide) rfl (fun ls hl => ?_)
        refine sm_lp (b := fun rc q => m_X12_place_b26 a0 x2 x3 M20_2992 rc q) (P := fun (q : Int32) H locs ls => smP D cA 2 adr M20_2992 H ∧ va_S (smA 2 adr) s.heap H locs ∧ lv_has ls 5 [(0, .ref (adr a0)), (2, .int x2), (3, .int x3), (4, .int q)]) (pc := 26) ?_ _ _ _ _ _ h ⟨hP, hS, lv_sub hl [1, 3, 4, 0] rfl⟩
        intro rc26_2995 ih26_2996 q H locs ls h hI
        obtain ⟨x4_26_2994, hq⟩ : ∃ y, y = q := ⟨_, rfl⟩; subst hq
        obtain ⟨hP, hS, hl⟩ := hI
        have hP : smP D cA 2 adr M20_2992 H := hP
        have hl : lv_has ls 5 [(0, .ref (adr a0)), (2, .int x2), (3, .int x3), (4, .int x4_26_2994)] := hl
        have h : m_X12_place_b26 a0 x2 x3 M20_2992 rc26_2995 x4_26_2994 = some _ := h
        unfold m_X12_place_b26 at h
        refine lv_iload hx hb dX12_place_26 (lv_at hl 3 rfl) ?_
        refine lv_aload_n hx hb dX12_place_28 rfl (lv_at hl 0 rfl) ?_
        refine sm_get (ci := 12) (C := RX12) (T := TX12) (N := 54) (v := .int (M20_2992 a0 29)) hx hb hts hin12 hown hE hP ha0 rfl rfl 29 (by decide) (hts (.fieldLink RX12 220 "OrderMoverModel" "stairs" "I") (by decide +kernel)) (fun _ h9 => h9) rfl dX12_place_29 ?_
        refine lv_icmp_ge (tgt := 66) hx hb dX12_place_32 (by decide) (fun c32_2997 => ?_) (fun c32_2997 => ?_)
        · rw [if_pos c32_2997] at h
          refine lv_bipush (v := (-4 : Int32)) hx hb dX12_place_66 (by decide) ?_
          cases h
          exact sm_iret hx hb hr hlocks hP hS dX12_place_68
        · rw [if_neg c32_2997] at h
          refine lv_aload_n hx hb dX12_place_35 rfl (lv_at hl 0 rfl) ?_
          refine sm_get (ci := 12) (C := RX12) (T := TX12) (N := 54) (v := .ref (adr (a0 + 22))) hx hb hts hin12 hown hE hP ha0 rfl rfl 30 (by decide) (hts (.fieldLink RX12 90 "OrderMoverModel" "stairI" "[I") (by decide +kernel)) (fun _ h9 => h9) rfl dX12_place_36 ?_
          refine lv_iload hx hb dX12_place_39 (lv_at hl 3 rfl) ?_
          obtain ⟨c41_2998, h⟩ := sm_ck h
          refine sm_iald hx hb hE hP (t12_30 ha0) c41_2998 dX12_place_41 ?_
          refine lv_iload_n hx hb dX12_place_42 rfl (lv_at hl 1 rfl) ?_
          refine lv_icmp_ne (tgt := 60) hx hb dX12_place_43 (by decide) (fun c43_2999 => ?_) (fun c43_2999 => ?_)
          · rw [if_neg c43_2999] at h
            refine lv_iinc (v := (x4_26_2994 + (1 : Int32))) (lv' := [(4, .int (x4_26_2994 + (1 : Int32))), (0, .ref (adr a0)), (2, .int x2), (3, .int x3)]) hx hb dX12_place_60 hl (k := 3) rfl (congrArg (fun z => x4_26_2994 + z) (by decide)) (by decide) rfl (fun ls hl => ?_)
            refine lv_goto (tgt := 26) hx hb dX12_place_63 (by decide) ?_
            exact ih26_2996 (x4_26_2994 + (1 : Int32)) _ _ _ h ⟨hP, hS, lv_sub hl [1, 2, 3, 0] rfl⟩
          · rw [if_pos c43_2999] at h
            refine lv_aload_n hx hb dX12_place_46 rfl (lv_at hl 0 rfl) ?_
            refine sm_get (ci := 12) (C := RX12) (T := TX12) (N := 54) (v := .ref (adr (a0 + 23))) hx hb hts hin12 hown hE hP ha0 rfl rfl 31 (by decide) (hts (.fieldLink RX12 93 "OrderMoverModel" "stairJ" "[I") (by decide +kernel)) (fun _ h9 => h9) rfl dX12_place_47 ?_
            refine lv_iload hx hb dX12_place_50 (lv_at hl 3 rfl) ?_
            obtain ⟨c52_3000, h⟩ := sm_ck h
            refine sm_iald hx hb hE hP (t12_31 ha0) c52_3000 dX12_place_52 ?_
            refine lv_iload_n hx hb dX12_place_53 rfl (lv_at hl 2 rfl) ?_
            refine lv_icmp_ne (tgt := 60) hx hb dX12_place_54 (by decide) (fun c54_3001 => ?_) (fun c54_3001 => ?_)
            · rw [if_neg c54_3001] at h
              refine lv_iinc (v := (x4_26_2994 + (1 : Int32))) (lv' := [(4, .int (x4_26_2994 + (1 : Int32))), (0, .ref (adr a0)), (2, .int x2), (3, .int x3)]) hx hb dX12_place_60 hl (k := 3) rfl (congrArg (fun z => x4_26_2994 + z) (by decide)) (by decide) rfl (fun ls hl => ?_)
              refine lv_goto (tgt := 26) hx hb dX12_place_63 (by decide) ?_
              exact ih26_2996 (x4_26_2994 + (1 : Int32)) _ _ _ h ⟨hP, hS, lv_sub hl [1, 2, 3, 0] rfl⟩
            · rw [if_pos c54_3001] at h
              refine lv_iload hx hb dX12_place_57 (lv_at hl 3 rfl) ?_
              cases h
              exact sm_iret hx hb hr hlocks hP hS dX12_place_59
      · rw [if_neg c13_2990] at h
        refine lv_iconst (v := (-1 : Int32)) hx hb dX12_place_16 (by decide) ?_
        cases h
        exact sm_iret hx hb hr hlocks hP hS dX12_place_17
set_option maxHeartbeats 4000000 in
set_option maxRecDepth 100000 in
theorem k_X12_plus (l : Launch) (D : va_G) (cA : Nat → ClassId) (adr : Nat → Nat) (hJ : smJ 2 adr) (a0 : Nat) (x1 : Int32) (x2 : Int32) (x3 : Int32) (ha0 : smT 2 a0 12) (M : smM) (v1 : Int32) (M1 : smM) (h : m_X12_plus a0 x1 x2 x3 M = some (v1, M1)) : Met l yX12_plus wsX12_plus ({ frames := 2, cells := 0, slots := 0, locals := 47 }) (smPc D cA 2 adr M [.ref (adr a0), .int x1, .int x2, .int x3]) (smQi D cA 2 adr M1 v1) 0 0 (smA 2 adr) := by
  refine Met.ofW (cc := cX12_plus) (maxL := 5) (ret := (some .int)) (by decide) rfl ?_
  intro p e s m args below meth c s₁ B hml hv
  obtain ⟨rfl, hE, hP⟩ := hv
  have hx := B.exec
  have hb := B.bytes
  have hr := B.returns
  have hts := atoms_spec (ws := wsX12_plus) B.pre
  have hown : s.vm.findClass RX12 = some m.cls := findClass_of_methodNamed B.named
  have hlocks := B.notSynchronized
  have hS : va_S (smA 2 adr) s.heap s.heap [] := va_S.rf
  have hP : smP D cA 2 adr M s.heap := hP
  have hl := lv_entry ([.ref (adr a0), .int x1, .int x2, .int x3]) (n := 5) (Nat.le_of_ble_eq_true rfl)
  rw [lg_entry_eq]
  generalize (lg_sl ([.ref (adr a0), .int x1, .int x2, .int x3]) ++ List.replicate (5 - (lg_sl ([.ref (adr a0), .int x1, .int x2, .int x3])).length) Slot.unset).toArray = ls at hl ⊢
  have hl : lv_has ls 5 [(0, .ref (adr a0)), (1, .int x1), (2, .int x2), (3, .int x3)] := hl
  unfold m_X12_plus at h
  have hin12 : ∀ w ∈ u_ws RX12 TX12 54, w ∈ wsX12_plus := by decide +kernel
  refine lv_iload_n hx hb dX12_plus_0 rfl (lv_at hl 1 rfl) ?_
  obtain ⟨v1_3002, hc1_3004, h⟩ := sm_bd h
  refine sm_ci (va_runS (As := [.int x1]) (rest := []) ⟨hx, hb, hml, hown, hts⟩ (k_X12_isSlot l D cA adr hJ x1  M v1_3002 hc1_3004) (va_cwS 1 hts gX12_plus_X12_isSlot rfl rfl rfl (by decide +kernel) ⟨Nat.le_of_ble_eq_true rfl, Nat.le_of_ble_eq_true rfl⟩) ⟨smPc_bl, smPc_in [.int x1] hE hP⟩ rfl rfl hl.1 rfl (lv_room (Nat.le_of_ble_eq_true rfl)) dX12_plus_1 ⟨Nat.zero_le _, Nat.zero_le _⟩) hS (fun H locs hP hS => ?_)
  refine lv_if_eq (tgt := 30) hx hb dX12_plus_4 (by decide) (fun c4_3005 => ?_) (fun c4_3005 => ?_)
  · rw [if_pos c4_3005] at h
    refine lv_iconst (v := (-1 : Int32)) hx hb dX12_plus_30 (by decide) ?_
    cases h
    exact sm_iret hx hb hr hlocks hP hS dX12_plus_31
  · rw [if_neg c4_3005] at h
    refine lv_iload_n hx hb dX12_plus_7 rfl (lv_at hl 2 rfl) ?_
    obtain ⟨v8_3006, hc8_3008, h⟩ := sm_bd h
    refine sm_ci (va_runS (As := [.int x2]) (rest := []) ⟨hx, hb, hml, hown, hts⟩ (k_X12_isSlot l D cA adr hJ x2  M v8_3006 hc8_3008) (va_cwS 1 hts gX12_plus_X12_isSlot rfl rfl rfl (by decide +kernel) ⟨Nat.le_of_ble_eq_true rfl, Nat.le_of_ble_eq_true rfl⟩) ⟨smPc_bl, smPc_in [.int x2] hE hP⟩ rfl rfl hl.1 rfl (lv_room (Nat.le_of_ble_eq_true rfl)) dX12_plus_8 ⟨Nat.zero_le _, Nat.zero_le _⟩) hS (fun H locs hP hS => ?_)
    refine lv_if_eq (tgt := 30) hx hb dX12_plus_11 (by decide) (fun c11_3009 => ?_) (fun c11_3009 => ?_)
    · rw [if_pos c11_3009] at h
      refine lv_iconst (v := (-1 : Int32)) hx hb dX12_plus_30 (by decide) ?_
      cases h
      exact sm_iret hx hb hr hlocks hP hS dX12_plus_31
    · rw [if_neg c11_3009] at h
      refine lv_iload_n hx hb dX12_plus_14 rfl (lv_at hl 3 rfl) ?_
      refine lv_i2l hx hb dX12_plus_15 rfl ?_
      refine lv_lconst (v := (0 : Int64)) hx hb dX12_plus_16 (by decide) ?_
      refine lv_aload_n hx hb dX12_plus_17 rfl (lv_at hl 0 rfl) ?_
      refine sm_get (ci := 12) (C := RX12) (T := TX12) (N := 54) (v := .int (M a0 0)) hx hb hts hin12 hown hE hP ha0 rfl rfl 0 (by decide) (hts (.fieldLink RX12 7 "OrderMoverModel" "p" "I") (by decide +kernel)) (fun _ h9 => h9) rfl dX12_plus_18 ?_
      refine lv_iconst (v := (1 : Int32)) hx hb dX12_plus_21 (by decide) ?_
      refine lv_isub hx hb dX12_plus_22 ?_
      refine lv_i2l hx hb dX12_plus_23 rfl ?_
      obtain ⟨v24_3010, hc24_3012, h⟩ := sm_bd h
      refine sm_ci (va_runS (As := [.long ((x3).toInt64), .long (0 : Int64), .long ((((M a0 0) - (1 : Int32))).toInt64)]) (rest := []) ⟨hx, hb, hml, hown, hts⟩ (k_X12_in l D cA adr hJ ((x3).toInt64) (0 : Int64) ((((M a0 0) - (1 : Int32))).toInt64)  M v24_3010 hc24_3012) (va_cwS 3 hts gX12_plus_X12_in rfl rfl rfl (by decide +kernel) ⟨Nat.le_of_ble_eq_true rfl, Nat.le_of_ble_eq_true rfl⟩) ⟨smPc_bl, smPc_in [.long ((x3).toInt64), .long (0 : Int64), .long ((((M a0 0) - (1 : Int32))).toInt64)] hE hP⟩ rfl rfl hl.1 rfl (lv_room (Nat.le_of_ble_eq_true rfl)) dX12_plus_24 ⟨Nat.zero_le _, Nat.zero_le _⟩) hS (fun H locs hP hS => ?_)
      refine lv_if_ne (tgt := 32) hx hb dX12_plus_27 (by decide) (fun c27_3013 => ?_) (fun c27_3013 => ?_)
      · rw [if_neg c27_3013] at h
        refine lv_aload_n hx hb dX12_plus_32 rfl (lv_at hl 0 rfl) ?_
        refine sm_get (ci := 12) (C := RX12) (T := TX12) (N := 54) (v := .ref (adr (a0 + 2))) hx hb hts hin12 hown hE hP ha0 rfl rfl 6 (by decide) (hts (.fieldLink RX12 29 "OrderMoverModel" "kinds" "[I") (by decide +kernel)) (fun _ h9 => h9) rfl dX12_plus_33 ?_
        refine lv_iload_n hx hb dX12_plus_36 rfl (lv_at hl 1 rfl) ?_
        obtain ⟨c37_3014, h⟩ := sm_ck h
        refine sm_iald hx hb hE hP (t12_6 ha0) c37_3014 dX12_plus_37 ?_
        refine lv_if_eq (tgt := 50) hx hb dX12_plus_38 (by decide) (fun c38_3015 => ?_) (fun c38_3015 => ?_)
        · rw [if_pos c38_3015] at h
          refine lv_bipush (v := (-11 : Int32)) hx hb dX12_plus_50 (by decide) ?_
          cases h
          exact sm_iret hx hb hr hlocks hP hS dX12_plus_52
        · rw [if_neg c38_3015] at h
          refine lv_aload_n hx hb dX12_plus_41 rfl (lv_at hl 0 rfl) ?_
          refine sm_get (ci := 12) (C := RX12) (T := TX12) (N := 54) (v := .ref (adr (a0 + 2))) hx hb hts hin12 hown hE hP ha0 rfl rfl 6 (by decide) (hts (.fieldLink RX12 29 "OrderMoverModel" "kinds" "[I") (by decide +kernel)) (fun _ h9 => h9) rfl dX12_plus_42 ?_
          refine lv_iload_n hx hb dX12_plus_45 rfl (lv_at hl 2 rfl) ?_
          obtain ⟨c46_3016, h⟩ := sm_ck h
          refine sm_iald hx hb hE hP (t12_6 ha0) c46_3016 dX12_plus_46 ?_
          refine lv_if_ne (tgt := 53) hx hb dX12_plus_47 (by decide) (fun c47_3017 => ?_) (fun c47_3017 => ?_)
          · rw [if_neg c47_3017] at h
            refine lv_aload_n hx hb dX12_plus_53 rfl (lv_at hl 0 rfl) ?_
            refine sm_get (ci := 12) (C := RX12) (T := TX12) (N := 54) (v := .ref (adr (a0 + 2))) hx hb hts hin12 hown hE hP ha0 rfl rfl 6 (by decide) (hts (.fieldLink RX12 29 "OrderMoverModel" "kinds" "[I") (by decide +kernel)) (fun _ h9 => h9) rfl dX12_plus_54 ?_
            refine lv_iload_n hx hb dX12_plus_57 rfl (lv_at hl 1 rfl) ?_
            obtain ⟨c58_3018, h⟩ := sm_ck h
            refine sm_iald hx hb hE hP (t12_6 ha0) c58_3018 dX12_plus_58 ?_
            refine lv_iconst (v := (1 : Int32)) hx hb dX12_plus_59 (by decide) ?_
            refine lv_icmp_ne (tgt := 73) hx hb dX12_plus_60 (by decide) (fun c60_3019 => ?_) (fun c60_3019 => ?_)
            · rw [if_neg c60_3019] at h
              refine lv_bipush (v := (-12 : Int32)) hx hb dX12_plus_73 (by decide) ?_
              cases h
              exact sm_iret hx hb hr hlocks hP hS dX12_plus_75
            · rw [if_pos c60_3019] at h
              refine lv_aload_n hx hb dX12_plus_63 rfl (lv_at hl 0 rfl) ?_
              refine sm_get (ci := 12) (C := RX12) (T := TX12) (N := 54) (v := .ref (adr (a0 + 2))) hx hb hts hin12 hown hE hP ha0 rfl rfl 6 (by decide) (hts (.fieldLink RX12 29 "OrderMoverModel" "kinds" "[I") (by decide +kernel)) (fun _ h9 => h9) rfl dX12_plus_64 ?_
              refine lv_iload_n hx hb dX12_plus_67 rfl (lv_at hl 2 rfl) ?_
              obtain ⟨c68_3020, h⟩ := sm_ck h
              refine sm_iald hx hb hE hP (t12_6 ha0) c68_3020 dX12_plus_68 ?_
              refine lv_iconst (v := (1 : Int32)) hx hb dX12_plus_69 (by decide) ?_
              refine lv_icmp_eq (tgt := 76) hx hb dX12_plus_70 (by decide) (fun c70_3021 => ?_) (fun c70_3021 => ?_)
              · rw [if_pos c70_3021] at h
                refine lv_aload_n hx hb dX12_plus_76 rfl (lv_at hl 0 rfl) ?_
                refine lv_iload_n hx hb dX12_plus_77 rfl (lv_at hl 1 rfl) ?_
                obtain ⟨M78_3023, hc78_3024, h⟩ := sm_bd h
                refine sm_cv (va_runV (As := [.int x1]) (rest := []) ⟨hx, hb, hml, hown, hts⟩ (k_X12_takes l D cA adr hJ a0 x1 ha0 M M78_3023 hc78_3024) (cwV 1 hts gX12_plus_X12_takes rfl rfl rfl (by decide +kernel) ⟨Nat.le_of_ble_eq_true rfl, Nat.le_of_ble_eq_true rfl⟩) ⟨smPc_bl, smRv hE hP ha0 rfl (ci := 12) (q := (RX12, TX12, 54)) rfl, smPc_in [.ref (adr a0), .int x1] hE hP⟩ rfl rfl hl.1 rfl (lv_room (Nat.le_of_ble_eq_true rfl)) dX12_plus_78 ⟨Nat.zero_le _, Nat.zero_le _⟩) hS (fun H locs hP hS => ?_)
                refine lv_bipush (v := (8 : Int32)) hx hb dX12_plus_81 (by decide) ?_
                refine lv_iload_n hx hb dX12_plus_83 rfl (lv_at hl 2 rfl) ?_
                refine lv_imul hx hb dX12_plus_84 ?_
                refine lv_istore (lv' := [(4, .int ((8 : Int32) * x2)), (0, .ref (adr a0)), (1, .int x1), (2, .int x2), (3, .int x3)]) hx hb dX12_plus_85 hl (by decide) rfl (fun ls hl => ?_)
                refine sm_lp (b := fun rc q => m_X12_plus_b87 a0 x1 x2 x3 rc q.1 q.2) (P := fun (q : Int32 × smM) H locs ls => smP D cA 2 adr q.2 H ∧ va_S (smA 2 adr) s.heap H locs ∧ lv_has ls 5 [(0, .ref (adr a0)), (1, .int x1), (2, .int x2), (3, .int x3), (4, .int q.1)]) (pc := 87) ?_ _ _ _ _ _ h ⟨hP, hS, lv_sub hl [1, 2, 3, 4, 0] rfl⟩
                intro rc87_3027 ih87_3028 q H locs ls h hI
                obtain ⟨x4_87_3025, M87_3026⟩ := q
                obtain ⟨hP, hS, hl⟩ := hI
                have hP : smP D cA 2 adr M87_3026 H := hP
                have hl : lv_has ls 5 [(0, .ref (adr a0)), (1, .int x1), (2, .int x2), (3, .int x3), (4, .int x4_87_3025)] := hl
                have h : m_X12_plus_b87 a0 x1 x2 x3 rc87_3027 x4_87_3025 M87_3026 = some _ := h
                unfold m_X12_plus_b87 at h
                refine lv_iload hx hb dX12_plus_87 (lv_at hl 4 rfl) ?_
                refine lv_bipush (v := (8 : Int32)) hx hb dX12_plus_89 (by decide) ?_
                refine lv_iload_n hx hb dX12_plus_91 rfl (lv_at hl 2 rfl) ?_
                refine lv_imul hx hb dX12_plus_92 ?_
                refine lv_aload_n hx hb dX12_plus_93 rfl (lv_at hl 0 rfl) ?_
                refine sm_get (ci := 12) (C := RX12) (T := TX12) (N := 54) (v := .ref (adr (a0 + 3))) hx hb hts hin12 hown hE hP ha0 rfl rfl 7 (by decide) (hts (.fieldLink RX12 32 "OrderMoverModel" "many" "[I") (by decide +kernel)) (fun _ h9 => h9) rfl dX12_plus_94 ?_
                refine lv_iload_n hx hb dX12_plus_97 rfl (lv_at hl 2 rfl) ?_
                obtain ⟨c98_3029, h⟩ := sm_ck h
                refine sm_iald hx hb hE hP (t12_7 ha0) c98_3029 dX12_plus_98 ?_
                refine lv_iadd hx hb dX12_plus_99 ?_
                refine lv_icmp_ge (tgt := 141) hx hb dX12_plus_100 (by decide) (fun c100_3030 => ?_) (fun c100_3030 => ?_)
                · rw [if_pos c100_3030] at h
                  refine lv_aload_n hx hb dX12_plus_141 rfl (lv_at hl 0 rfl) ?_
                  refine lv_iload_n hx hb dX12_plus_142 rfl (lv_at hl 1 rfl) ?_
                  obtain ⟨v143_3031, M143_3032, hc143_3033, h⟩ := sm_bd2 h
                  refine sm_ci (va_runV (As := [.int x1]) (rest := []) ⟨hx, hb, hml, hown, hts⟩ (k_X12_gives l D cA adr hJ a0 x1 ha0 M87_3026 v143_3031 M143_3032 hc143_3033) (cwV 1 hts gX12_plus_X12_gives rfl rfl rfl (by decide +kernel) ⟨Nat.le_of_ble_eq_true rfl, Nat.le_of_ble_eq_true rfl⟩) ⟨smPc_bl, smRv hE hP ha0 rfl (ci := 12) (q := (RX12, TX12, 54)) rfl, smPc_in [.ref (adr a0), .int x1] hE hP⟩ rfl rfl hl.1 rfl (lv_room (Nat.le_of_ble_eq_true rfl)) dX12_plus_143 ⟨Nat.zero_le _, Nat.zero_le _⟩) hS (fun H locs hP hS => ?_)
                  cases h
                  exact sm_iret hx hb hr hlocks hP hS dX12_plus_146
                · rw [if_neg c100_3030] at h
                  refine lv_aload_n hx hb dX12_plus_103 rfl (lv_at hl 0 rfl) ?_
                  refine lv_iload_n hx hb dX12_plus_104 rfl (lv_at hl 3 rfl) ?_
                  refine lv_aload_n hx hb dX12_plus_105 rfl (lv_at hl 0 rfl) ?_
                  refine sm_get (ci := 12) (C := RX12) (T := TX12) (N := 54) (v := .ref (adr (a0 + 4))) hx hb hts hin12 hown hE hP ha0 rfl rfl 8 (by decide) (hts (.fieldLink RX12 35 "OrderMoverModel" "numbers" "[I") (by decide +kernel)) (fun _ h9 => h9) rfl dX12_plus_106 ?_
                  refine lv_iload hx hb dX12_plus_109 (lv_at hl 4 rfl) ?_
                  obtain ⟨c111_3034, h⟩ := sm_ck h
                  refine sm_iald hx hb hE hP (t12_8 ha0) c111_3034 dX12_plus_111 ?_
                  refine lv_imul hx hb dX12_plus_112 ?_
                  refine lv_aload_n hx hb dX12_plus_113 rfl (lv_at hl 0 rfl) ?_
                  refine sm_get (ci := 12) (C := RX12) (T := TX12) (N := 54) (v := .int (M87_3026 a0 0)) hx hb hts hin12 hown hE hP ha0 rfl rfl 0 (by decide) (hts (.fieldLink RX12 7 "OrderMoverModel" "p" "I") (by decide +kernel)) (fun _ h9 => h9) rfl dX12_plus_114 ?_
                  obtain ⟨c117_3035, h⟩ := sm_ck h
                  refine lv_irem hx hb dX12_plus_117 c117_3035 ?_
                  refine lv_aload_n hx hb dX12_plus_118 rfl (lv_at hl 0 rfl) ?_
                  refine sm_get (ci := 12) (C := RX12) (T := TX12) (N := 54) (v := .ref (adr (a0 + 5))) hx hb hts hin12 hown hE hP ha0 rfl rfl 9 (by decide) (hts (.fieldLink RX12 38 "OrderMoverModel" "powersI" "[I") (by decide +kernel)) (fun _ h9 => h9) rfl dX12_plus_119 ?_
                  refine lv_iload hx hb dX12_plus_122 (lv_at hl 4 rfl) ?_
                  obtain ⟨c124_3036, h⟩ := sm_ck h
                  refine sm_iald hx hb hE hP (t12_9 ha0) c124_3036 dX12_plus_124 ?_
                  refine lv_aload_n hx hb dX12_plus_125 rfl (lv_at hl 0 rfl) ?_
                  refine sm_get (ci := 12) (C := RX12) (T := TX12) (N := 54) (v := .ref (adr (a0 + 6))) hx hb hts hin12 hown hE hP ha0 rfl rfl 10 (by decide) (hts (.fieldLink RX12 41 "OrderMoverModel" "powersJ" "[I") (by decide +kernel)) (fun _ h9 => h9) rfl dX12_plus_126 ?_
                  refine lv_iload hx hb dX12_plus_129 (lv_at hl 4 rfl) ?_
                  obtain ⟨c131_3037, h⟩ := sm_ck h
                  refine sm_iald hx hb hE hP (t12_10 ha0) c131_3037 dX12_plus_131 ?_
                  obtain ⟨M132_3039, hc132_3040, h⟩ := sm_bd h
                  refine sm_cv (va_runV (As := [.int ((x3 * (M87_3026 (a0 + 4) (x4_87_3025).toNatClampNeg)) - (x3 * (M87_3026 (a0 + 4) (x4_87_3025).toNatClampNeg)) / (M87_3026 a0 0) * (M87_3026 a0 0)), .int (M87_3026 (a0 + 5) (x4_87_3025).toNatClampNeg), .int (M87_3026 (a0 + 6) (x4_87_3025).toNatClampNeg)]) (rest := []) ⟨hx, hb, hml, hown, hts⟩ (k_X12_comes l D cA adr hJ a0 ((x3 * (M87_3026 (a0 + 4) (x4_87_3025).toNatClampNeg)) - (x3 * (M87_3026 (a0 + 4) (x4_87_3025).toNatClampNeg)) / (M87_3026 a0 0) * (M87_3026 a0 0)) (M87_3026 (a0 + 5) (x4_87_3025).toNatClampNeg) (M87_3026 (a0 + 6) (x4_87_3025).toNatClampNeg) ha0 M87_3026 M132_3039 hc132_3040) (cwV 3 hts gX12_plus_X12_comes rfl rfl rfl (by decide +kernel) ⟨Nat.le_of_ble_eq_true rfl, Nat.le_of_ble_eq_true rfl⟩) ⟨smPc_bl, smRv hE hP ha0 rfl (ci := 12) (q := (RX12, TX12, 54)) rfl, smPc_in [.ref (adr a0), .int ((x3 * (M87_3026 (a0 + 4) (x4_87_3025).toNatClampNeg)) - (x3 * (M87_3026 (a0 + 4) (x4_87_3025).toNatClampNeg)) / (M87_3026 a0 0) * (M87_3026 a0 0)), .int (M87_3026 (a0 + 5) (x4_87_3025).toNatClampNeg), .int (M87_3026 (a0 + 6) (x4_87_3025).toNatClampNeg)] hE hP⟩ rfl rfl hl.1 rfl (lv_room (Nat.le_of_ble_eq_true rfl)) dX12_plus_132 ⟨Nat.zero_le _, Nat.zero_le _⟩) hS (fun H locs hP hS => ?_)
                  refine lv_iinc (v := (x4_87_3025 + (1 : Int32))) (lv' := [(4, .int (x4_87_3025 + (1 : Int32))), (0, .ref (adr a0)), (1, .int x1), (2, .int x2), (3, .int x3)]) hx hb dX12_plus_135 hl (k := 4) rfl (congrArg (fun z => x4_87_3025 + z) (by decide)) (by decide) rfl (fun ls hl => ?_)
                  refine lv_goto (tgt := 87) hx hb dX12_plus_138 (by decide) ?_
                  exact ih87_3028 ((x4_87_3025 + (1 : Int32)), M132_3039) _ _ _ h ⟨hP, hS, lv_sub hl [1, 2, 3, 4, 0] rfl⟩
              · rw [if_neg c70_3021] at h
                refine lv_bipush (v := (-12 : Int32)) hx hb dX12_plus_73 (by decide) ?_
                cases h
                exact sm_iret hx hb hr hlocks hP hS dX12_plus_75
          · rw [if_pos c47_3017] at h
            refine lv_bipush (v := (-11 : Int32)) hx hb dX12_plus_50 (by decide) ?_
            cases h
            exact sm_iret hx hb hr hlocks hP hS dX12_plus_52
      · rw [if_pos c27_3013] at h
        refine lv_iconst (v := (-1 : Int32)) hx hb dX12_plus_30 (by decide) ?_
        cases h
        exact sm_iret hx hb hr hlocks hP hS dX12_plus_31
set_option maxHeartbeats 4000000 in
set_option maxRecDepth 100000 in
theorem k_X12_poly (l : Launch) (D : va_G) (cA : Nat → ClassId) (adr : Nat → Nat) (hJ : smJ 2 adr) (a0 : Nat) (x1 : Int32) (ha0 : smT 2 a0 12) (M : smM) (v1 : Int32) (M1 : smM) (h : m_X12_poly a0 x1 M = some (v1, M1)) : Met l yX12_poly wsX12_poly ({ frames := 2, cells := 0, slots := 0, locals := 45 }) (smPc D cA 2 adr M [.ref (adr a0), .int x1]) (smQi D cA 2 adr M1 v1) 0 0 (smA 2 adr) := by
  refine Met.ofW (cc := cX12_poly) (maxL := 3) (ret := (some .int)) (by decide) rfl ?_
  intro p e s m args below meth c s₁ B hml hv
  obtain ⟨rfl, hE, hP⟩ := hv
  have hx := B.exec
  have hb := B.bytes
  have hr := B.returns
  have hts := atoms_spec (ws := wsX12_poly) B.pre
  have hown : s.vm.findClass RX12 = some m.cls := findClass_of_methodNamed B.named
  have hlocks := B.notSynchronized
  have hS : va_S (smA 2 adr) s.heap s.heap [] := va_S.rf
  have hP : smP D cA 2 adr M s.heap := hP
  have hl := lv_entry ([.ref (adr a0), .int x1]) (n := 3) (Nat.le_of_ble_eq_true rfl)
  rw [lg_entry_eq]
  generalize (lg_sl ([.ref (adr a0), .int x1]) ++ List.replicate (3 - (lg_sl ([.ref (adr a0), .int x1])).length) Slot.unset).toArray = ls at hl ⊢
  have hl : lv_has ls 3 [(0, .ref (adr a0)), (1, .int x1)] := hl
  unfold m_X12_poly at h
  have hin12 : ∀ w ∈ u_ws RX12 TX12 54, w ∈ wsX12_poly := by decide +kernel
  refine lv_iload_n hx hb dX12_poly_0 rfl (lv_at hl 1 rfl) ?_
  obtain ⟨v1_3041, hc1_3043, h⟩ := sm_bd h
  refine sm_ci (va_runS (As := [.int x1]) (rest := []) ⟨hx, hb, hml, hown, hts⟩ (k_X12_isSlot l D cA adr hJ x1  M v1_3041 hc1_3043) (va_cwS 1 hts gX12_poly_X12_isSlot rfl rfl rfl (by decide +kernel) ⟨Nat.le_of_ble_eq_true rfl, Nat.le_of_ble_eq_true rfl⟩) ⟨smPc_bl, smPc_in [.int x1] hE hP⟩ rfl rfl hl.1 rfl (lv_room (Nat.le_of_ble_eq_true rfl)) dX12_poly_1 ⟨Nat.zero_le _, Nat.zero_le _⟩) hS (fun H locs hP hS => ?_)
  refine lv_if_ne (tgt := 9) hx hb dX12_poly_4 (by decide) (fun c4_3044 => ?_) (fun c4_3044 => ?_)
  · rw [if_neg c4_3044] at h
    refine lv_aload_n hx hb dX12_poly_9 rfl (lv_at hl 0 rfl) ?_
    refine sm_get (ci := 12) (C := RX12) (T := TX12) (N := 54) (v := .ref (adr (a0 + 2))) hx hb hts hin12 hown hE hP ha0 rfl rfl 6 (by decide) (hts (.fieldLink RX12 29 "OrderMoverModel" "kinds" "[I") (by decide +kernel)) (fun _ h9 => h9) rfl dX12_poly_10 ?_
    refine lv_iload_n hx hb dX12_poly_13 rfl (lv_at hl 1 rfl) ?_
    obtain ⟨c14_3045, h⟩ := sm_ck h
    refine sm_iald hx hb hE hP (t12_6 ha0) c14_3045 dX12_poly_14 ?_
    refine lv_istore_n (lv' := [(2, .int (M (a0 + 2) (x1).toNatClampNeg)), (0, .ref (adr a0)), (1, .int x1)]) hx hb dX12_poly_15 rfl hl (by decide) rfl (fun ls hl => ?_)
    refine lv_aload_n hx hb dX12_poly_16 rfl (lv_at hl 1 rfl) ?_
    refine sm_get (ci := 12) (C := RX12) (T := TX12) (N := 54) (v := .ref (adr (a0 + 2))) hx hb hts hin12 hown hE hP ha0 rfl rfl 6 (by decide) (hts (.fieldLink RX12 29 "OrderMoverModel" "kinds" "[I") (by decide +kernel)) (fun _ h9 => h9) rfl dX12_poly_17 ?_
    refine lv_iload_n hx hb dX12_poly_20 rfl (lv_at hl 2 rfl) ?_
    refine lv_iconst (v := (1 : Int32)) hx hb dX12_poly_21 (by decide) ?_
    obtain ⟨c22_3046, h⟩ := sm_ck h
    refine sm_iast hx hb hE hJ hP hS (t12_6 ha0) c22_3046 dX12_poly_22 (fun H locs hP hS => ?_)
    obtain ⟨M22_3047, hM, h⟩ := sm_lt h
    rw [← hM] at hP; clear hM
    refine lv_aload_n hx hb dX12_poly_23 rfl (lv_at hl 1 rfl) ?_
    refine sm_get (ci := 12) (C := RX12) (T := TX12) (N := 54) (v := .ref (adr (a0 + 3))) hx hb hts hin12 hown hE hP ha0 rfl rfl 7 (by decide) (hts (.fieldLink RX12 32 "OrderMoverModel" "many" "[I") (by decide +kernel)) (fun _ h9 => h9) rfl dX12_poly_24 ?_
    refine lv_iload_n hx hb dX12_poly_27 rfl (lv_at hl 2 rfl) ?_
    refine lv_iconst (v := (0 : Int32)) hx hb dX12_poly_28 (by decide) ?_
    obtain ⟨c29_3048, h⟩ := sm_ck h
    refine sm_iast hx hb hE hJ hP hS (t12_7 ha0) c29_3048 dX12_poly_29 (fun H locs hP hS => ?_)
    obtain ⟨M29_3049, hM, h⟩ := sm_lt h
    rw [← hM] at hP; clear hM
    refine lv_iload_n hx hb dX12_poly_30 rfl (lv_at hl 0 rfl) ?_
    cases h
    exact sm_iret hx hb hr hlocks hP hS dX12_poly_31
  · rw [if_pos c4_3044] at h
    refine lv_iconst (v := (-1 : Int32)) hx hb dX12_poly_7 (by decide) ?_
    cases h
    exact sm_iret hx hb hr hlocks hP hS dX12_poly_8
set_option maxHeartbeats 4000000 in
set_option maxRecDepth 100000 in
theorem k_X12_put (l : Launch) (D : va_G) (cA : Nat → ClassId) (adr : Nat → Nat) (hJ : smJ 2 adr) (a0 : Nat) (x1 : Int32) (x2 : Int32) (x3 : Int32) (x4 : Int32) (ha0 : smT 2 a0 12) (M : smM) (v1 : Int32) (M1 : smM) (h : m_X12_put a0 x1 x2 x3 x4 M = some (v1, M1)) : Met l yX12_put wsX12_put ({ frames := 2, cells := 0, slots := 0, locals := 48 }) (smPc D cA 2 adr M [.ref (adr a0), .int x1, .int x2, .int x3, .int x4]) (smQi D cA 2 adr M1 v1) 0 0 (smA 2 adr) := by
  refine Met.ofW (cc := cX12_put) (maxL := 7) (ret := (some .int)) (by decide) rfl ?_
  intro p e s m args below meth c s₁ B hml hv
  obtain ⟨rfl, hE, hP⟩ := hv
  have hx := B.exec
  have hb := B.bytes
  have hr := B.returns
  have hts := atoms_spec (ws := wsX12_put) B.pre
  have hown : s.vm.findClass RX12 = some m.cls := findClass_of_methodNamed B.named
  have hlocks := B.notSynchronized
  have hS : va_S (smA 2 adr) s.heap s.heap [] := va_S.rf
  have hP : smP D cA 2 adr M s.heap := hP
  have hl := lv_entry ([.ref (adr a0), .int x1, .int x2, .int x3, .int x4]) (n := 7) (Nat.le_of_ble_eq_true rfl)
  rw [lg_entry_eq]
  generalize (lg_sl ([.ref (adr a0), .int x1, .int x2, .int x3, .int x4]) ++ List.replicate (7 - (lg_sl ([.ref (adr a0), .int x1, .int x2, .int x3, .int x4])).length) Slot.unset).toArray = ls at hl ⊢
  have hl : lv_has ls 7 [(0, .ref (adr a0)), (1, .int x1), (2, .int x2), (3, .int x3), (4, .int x4)] := hl
  unfold m_X12_put at h
  have hin12 : ∀ w ∈ u_ws RX12 TX12 54, w ∈ wsX12_put := by decide +kernel
  refine lv_aload_n hx hb dX12_put_0 rfl (lv_at hl 0 rfl) ?_
  refine lv_iload_n hx hb dX12_put_1 rfl (lv_at hl 1 rfl) ?_
  refine lv_iload_n hx hb dX12_put_2 rfl (lv_at hl 2 rfl) ?_
  refine lv_iload_n hx hb dX12_put_3 rfl (lv_at hl 3 rfl) ?_
  obtain ⟨v4_3050, hc4_3052, h⟩ := sm_bd h
  refine sm_ci (va_runV (As := [.int x1, .int x2, .int x3]) (rest := []) ⟨hx, hb, hml, hown, hts⟩ (k_X12_isCoefficient l D cA adr hJ a0 x1 x2 x3 ha0 M v4_3050 hc4_3052) (cwV 3 hts gX12_put_X12_isCoefficient rfl rfl rfl (by decide +kernel) ⟨Nat.le_of_ble_eq_true rfl, Nat.le_of_ble_eq_true rfl⟩) ⟨smPc_bl, smRv hE hP ha0 rfl (ci := 12) (q := (RX12, TX12, 54)) rfl, smPc_in [.ref (adr a0), .int x1, .int x2, .int x3] hE hP⟩ rfl rfl hl.1 rfl (lv_room (Nat.le_of_ble_eq_true rfl)) dX12_put_4 ⟨Nat.zero_le _, Nat.zero_le _⟩) hS (fun H locs hP hS => ?_)
  refine lv_if_eq (tgt := 27) hx hb dX12_put_7 (by decide) (fun c7_3053 => ?_) (fun c7_3053 => ?_)
  · rw [if_pos c7_3053] at h
    refine lv_iconst (v := (-1 : Int32)) hx hb dX12_put_27 (by decide) ?_
    cases h
    exact sm_iret hx hb hr hlocks hP hS dX12_put_28
  · rw [if_neg c7_3053] at h
    refine lv_iload hx hb dX12_put_10 (lv_at hl 4 rfl) ?_
    refine lv_i2l hx hb dX12_put_12 rfl ?_
    refine lv_lconst (v := (0 : Int64)) hx hb dX12_put_13 (by decide) ?_
    refine lv_aload_n hx hb dX12_put_14 rfl (lv_at hl 0 rfl) ?_
    refine sm_get (ci := 12) (C := RX12) (T := TX12) (N := 54) (v := .int (M a0 0)) hx hb hts hin12 hown hE hP ha0 rfl rfl 0 (by decide) (hts (.fieldLink RX12 7 "OrderMoverModel" "p" "I") (by decide +kernel)) (fun _ h9 => h9) rfl dX12_put_15 ?_
    refine lv_iconst (v := (1 : Int32)) hx hb dX12_put_18 (by decide) ?_
    refine lv_isub hx hb dX12_put_19 ?_
    refine lv_i2l hx hb dX12_put_20 rfl ?_
    obtain ⟨v21_3054, hc21_3056, h⟩ := sm_bd h
    refine sm_ci (va_runS (As := [.long ((x4).toInt64), .long (0 : Int64), .long ((((M a0 0) - (1 : Int32))).toInt64)]) (rest := []) ⟨hx, hb, hml, hown, hts⟩ (k_X12_in l D cA adr hJ ((x4).toInt64) (0 : Int64) ((((M a0 0) - (1 : Int32))).toInt64)  M v21_3054 hc21_3056) (va_cwS 3 hts gX12_put_X12_in rfl rfl rfl (by decide +kernel) ⟨Nat.le_of_ble_eq_true rfl, Nat.le_of_ble_eq_true rfl⟩) ⟨smPc_bl, smPc_in [.long ((x4).toInt64), .long (0 : Int64), .long ((((M a0 0) - (1 : Int32))).toInt64)] hE hP⟩ rfl rfl hl.1 rfl (lv_room (Nat.le_of_ble_eq_true rfl)) dX12_put_21 ⟨Nat.zero_le _, Nat.zero_le _⟩) hS (fun H locs hP hS => ?_)
    refine lv_if_ne (tgt := 29) hx hb dX12_put_24 (by decide) (fun c24_3057 => ?_) (fun c24_3057 => ?_)
    · rw [if_neg c24_3057] at h
      refine lv_bipush (v := (9 : Int32)) hx hb dX12_put_29 (by decide) ?_
      refine lv_iload_n hx hb dX12_put_31 rfl (lv_at hl 1 rfl) ?_
      refine lv_imul hx hb dX12_put_32 ?_
      refine lv_iconst (v := (3 : Int32)) hx hb dX12_put_33 (by decide) ?_
      refine lv_iload_n hx hb dX12_put_34 rfl (lv_at hl 2 rfl) ?_
      refine lv_imul hx hb dX12_put_35 ?_
      refine lv_iadd hx hb dX12_put_36 ?_
      refine lv_iload_n hx hb dX12_put_37 rfl (lv_at hl 3 rfl) ?_
      refine lv_iadd hx hb dX12_put_38 ?_
      refine lv_istore (lv' := [(5, .int ((((9 : Int32) * x1) + ((3 : Int32) * x2)) + x3)), (0, .ref (adr a0)), (1, .int x1), (2, .int x2), (3, .int x3), (4, .int x4)]) hx hb dX12_put_39 hl (by decide) rfl (fun ls hl => ?_)
      refine lv_aload_n hx hb dX12_put_41 rfl (lv_at hl 1 rfl) ?_
      refine sm_get (ci := 12) (C := RX12) (T := TX12) (N := 54) (v := .ref (adr (a0 + 1))) hx hb hts hin12 hown hE hP ha0 rfl rfl 5 (by decide) (hts (.fieldLink RX12 25 "OrderMoverModel" "coefficients" "[I") (by decide +kernel)) (fun _ h9 => h9) rfl dX12_put_42 ?_
      refine lv_iload hx hb dX12_put_45 (lv_at hl 0 rfl) ?_
      obtain ⟨c47_3058, h⟩ := sm_ck h
      refine sm_iald hx hb hE hP (t12_5 ha0) c47_3058 dX12_put_47 ?_
      refine lv_istore (lv' := [(6, .int (M (a0 + 1) (((((9 : Int32) * x1) + ((3 : Int32) * x2)) + x3)).toNatClampNeg)), (5, .int ((((9 : Int32) * x1) + ((3 : Int32) * x2)) + x3)), (0, .ref (adr a0)), (1, .int x1), (2, .int x2), (3, .int x3), (4, .int x4)]) hx hb dX12_put_48 hl (by decide) rfl (fun ls hl => ?_)
      refine lv_aload_n hx hb dX12_put_50 rfl (lv_at hl 2 rfl) ?_
      refine sm_get (ci := 12) (C := RX12) (T := TX12) (N := 54) (v := .ref (adr (a0 + 1))) hx hb hts hin12 hown hE hP ha0 rfl rfl 5 (by decide) (hts (.fieldLink RX12 25 "OrderMoverModel" "coefficients" "[I") (by decide +kernel)) (fun _ h9 => h9) rfl dX12_put_51 ?_
      refine lv_iload hx hb dX12_put_54 (lv_at hl 1 rfl) ?_
      refine lv_iload hx hb dX12_put_56 (lv_at hl 6 rfl) ?_
      obtain ⟨c58_3059, h⟩ := sm_ck h
      refine sm_iast hx hb hE hJ hP hS (t12_5 ha0) c58_3059 dX12_put_58 (fun H locs hP hS => ?_)
      obtain ⟨M58_3060, hM, h⟩ := sm_lt h
      rw [← hM] at hP; clear hM
      refine lv_iload hx hb dX12_put_59 (lv_at hl 0 rfl) ?_
      cases h
      exact sm_iret hx hb hr hlocks hP hS dX12_put_61
    · rw [if_pos c24_3057] at h
      refine lv_iconst (v := (-1 : Int32)) hx hb dX12_put_27 (by decide) ?_
      cases h
      exact sm_iret hx hb hr hlocks hP hS dX12_put_28
set_option maxHeartbeats 4000000 in
set_option maxRecDepth 100000 in
theorem k_X12_reduce (l : Launch) (D : va_G) (cA : Nat → ClassId) (adr : Nat → Nat) (hJ : smJ 2 adr) (a0 : Nat) (x1 : Int32) (x2 : Int32) (ha0 : smT 2 a0 12) (M : smM) (v1 : Int32) (M1 : smM) (h : m_X12_reduce a0 x1 x2 M = some (v1, M1)) : Met l yX12_reduce wsX12_reduce ({ frames := 6, cells := 0, slots := 0, locals := 139 }) (smPc D cA 2 adr M [.ref (adr a0), .int x1, .int x2]) (smQi D cA 2 adr M1 v1) 0 0 (smA 2 adr) := by
  refine Met.ofW (cc := cX12_reduce) (maxL := 5) (ret := (some .int)) (by decide) rfl ?_
  intro p e s m args below meth c s₁ B hml hv
  obtain ⟨rfl, hE, hP⟩ := hv
  have hx := B.exec
  have hb := B.bytes
  have hr := B.returns
  have hts := atoms_spec (ws := wsX12_reduce) B.pre
  have hown : s.vm.findClass RX12 = some m.cls := findClass_of_methodNamed B.named
  have hlocks := B.notSynchronized
  have hS : va_S (smA 2 adr) s.heap s.heap [] := va_S.rf
  have hP : smP D cA 2 adr M s.heap := hP
  have hl := lv_entry ([.ref (adr a0), .int x1, .int x2]) (n := 5) (Nat.le_of_ble_eq_true rfl)
  rw [lg_entry_eq]
  generalize (lg_sl ([.ref (adr a0), .int x1, .int x2]) ++ List.replicate (5 - (lg_sl ([.ref (adr a0), .int x1, .int x2])).length) Slot.unset).toArray = ls at hl ⊢
  have hl : lv_has ls 5 [(0, .ref (adr a0)), (1, .int x1), (2, .int x2)] := hl
  unfold m_X12_reduce at h
  have hin12 : ∀ w ∈ u_ws RX12 TX12 54, w ∈ wsX12_reduce := by decide +kernel
  refine lv_iload_n hx hb dX12_reduce_0 rfl (lv_at hl 1 rfl) ?_
  obtain ⟨v1_3061, hc1_3063, h⟩ := sm_bd h
  refine sm_ci (va_runS (As := [.int x1]) (rest := []) ⟨hx, hb, hml, hown, hts⟩ (k_X12_isSlot l D cA adr hJ x1  M v1_3061 hc1_3063) (va_cwS 1 hts gX12_reduce_X12_isSlot rfl rfl rfl (by decide +kernel) ⟨Nat.le_of_ble_eq_true rfl, Nat.le_of_ble_eq_true rfl⟩) ⟨smPc_bl, smPc_in [.int x1] hE hP⟩ rfl rfl hl.1 rfl (lv_room (Nat.le_of_ble_eq_true rfl)) dX12_reduce_1 ⟨Nat.zero_le _, Nat.zero_le _⟩) hS (fun H locs hP hS => ?_)
  refine lv_if_eq (tgt := 15) hx hb dX12_reduce_4 (by decide) (fun c4_3064 => ?_) (fun c4_3064 => ?_)
  · rw [if_pos c4_3064] at h
    refine lv_iconst (v := (-1 : Int32)) hx hb dX12_reduce_15 (by decide) ?_
    cases h
    exact sm_iret hx hb hr hlocks hP hS dX12_reduce_16
  · rw [if_neg c4_3064] at h
    refine lv_aload_n hx hb dX12_reduce_7 rfl (lv_at hl 0 rfl) ?_
    refine lv_iload_n hx hb dX12_reduce_8 rfl (lv_at hl 2 rfl) ?_
    obtain ⟨v9_3065, hc9_3067, h⟩ := sm_bd h
    refine sm_ci (va_runV (As := [.int x2]) (rest := []) ⟨hx, hb, hml, hown, hts⟩ (k_X12_isOrder l D cA adr hJ a0 x2 ha0 M v9_3065 hc9_3067) (cwV 1 hts gX12_reduce_X12_isOrder rfl rfl rfl (by decide +kernel) ⟨Nat.le_of_ble_eq_true rfl, Nat.le_of_ble_eq_true rfl⟩) ⟨smPc_bl, smRv hE hP ha0 rfl (ci := 12) (q := (RX12, TX12, 54)) rfl, smPc_in [.ref (adr a0), .int x2] hE hP⟩ rfl rfl hl.1 rfl (lv_room (Nat.le_of_ble_eq_true rfl)) dX12_reduce_9 ⟨Nat.zero_le _, Nat.zero_le _⟩) hS (fun H locs hP hS => ?_)
    refine lv_if_ne (tgt := 17) hx hb dX12_reduce_12 (by decide) (fun c12_3068 => ?_) (fun c12_3068 => ?_)
    · rw [if_neg c12_3068] at h
      refine lv_aload_n hx hb dX12_reduce_17 rfl (lv_at hl 0 rfl) ?_
      refine lv_iload_n hx hb dX12_reduce_18 rfl (lv_at hl 1 rfl) ?_
      refine lv_iconst (v := (1 : Int32)) hx hb dX12_reduce_19 (by decide) ?_
      obtain ⟨v20_3069, hc20_3071, h⟩ := sm_bd h
      refine sm_ci (va_runV (As := [.int x1, .int (1 : Int32)]) (rest := []) ⟨hx, hb, hml, hown, hts⟩ (k_X12_lacks l D cA adr hJ a0 x1 (1 : Int32) ha0 M v20_3069 hc20_3071) (cwV 2 hts gX12_reduce_X12_lacks rfl rfl rfl (by decide +kernel) ⟨Nat.le_of_ble_eq_true rfl, Nat.le_of_ble_eq_true rfl⟩) ⟨smPc_bl, smRv hE hP ha0 rfl (ci := 12) (q := (RX12, TX12, 54)) rfl, smPc_in [.ref (adr a0), .int x1, .int (1 : Int32)] hE hP⟩ rfl rfl hl.1 rfl (lv_room (Nat.le_of_ble_eq_true rfl)) dX12_reduce_20 ⟨Nat.zero_le _, Nat.zero_le _⟩) hS (fun H locs hP hS => ?_)
      refine lv_istore_n (lv' := [(3, .int v20_3069), (0, .ref (adr a0)), (1, .int x1), (2, .int x2)]) hx hb dX12_reduce_23 rfl hl (by decide) rfl (fun ls hl => ?_)
      refine lv_iload_n hx hb dX12_reduce_24 rfl (lv_at hl 0 rfl) ?_
      refine lv_if_ge (tgt := 30) hx hb dX12_reduce_25 (by decide) (fun c25_3072 => ?_) (fun c25_3072 => ?_)
      · rw [if_pos c25_3072] at h
        refine lv_aload_n hx hb dX12_reduce_30 rfl (lv_at hl 1 rfl) ?_
        refine lv_iload_n hx hb dX12_reduce_31 rfl (lv_at hl 3 rfl) ?_
        obtain ⟨M32_3074, hc32_3075, h⟩ := sm_bd h
        refine sm_cv (va_runV (As := [.int x2]) (rest := []) ⟨hx, hb, hml, hown, hts⟩ (k_X12_walksNow l D cA adr hJ a0 x2 ha0 M M32_3074 hc32_3075) (cwV 1 hts gX12_reduce_X12_walksNow rfl rfl rfl (by decide +kernel) ⟨Nat.le_of_ble_eq_true rfl, Nat.le_of_ble_eq_true rfl⟩) ⟨smPc_bl, smRv hE hP ha0 rfl (ci := 12) (q := (RX12, TX12, 54)) rfl, smPc_in [.ref (adr a0), .int x2] hE hP⟩ rfl rfl hl.1 rfl (lv_room (Nat.le_of_ble_eq_true rfl)) dX12_reduce_32 ⟨Nat.zero_le _, Nat.zero_le _⟩) hS (fun H locs hP hS => ?_)
        refine lv_aload_n hx hb dX12_reduce_35 rfl (lv_at hl 1 rfl) ?_
        refine lv_iload_n hx hb dX12_reduce_36 rfl (lv_at hl 2 rfl) ?_
        obtain ⟨M37_3077, hc37_3078, h⟩ := sm_bd h
        refine sm_cv (va_runV (As := [.int x1]) (rest := []) ⟨hx, hb, hml, hown, hts⟩ (k_X12_formOfSlot l D cA adr hJ a0 x1 ha0 M32_3074 M37_3077 hc37_3078) (cwV 1 hts gX12_reduce_X12_formOfSlot rfl rfl rfl (by decide +kernel) ⟨Nat.le_of_ble_eq_true rfl, Nat.le_of_ble_eq_true rfl⟩) ⟨smPc_bl, smRv hE hP ha0 rfl (ci := 12) (q := (RX12, TX12, 54)) rfl, smPc_in [.ref (adr a0), .int x1] hE hP⟩ rfl rfl hl.1 rfl (lv_room (Nat.le_of_ble_eq_true rfl)) dX12_reduce_37 ⟨Nat.zero_le _, Nat.zero_le _⟩) hS (fun H locs hP hS => ?_)
        refine lv_aload_n hx hb dX12_reduce_40 rfl (lv_at hl 1 rfl) ?_
        refine lv_iconst (v := (0 : Int32)) hx hb dX12_reduce_41 (by decide) ?_
        refine sm_put (ci := 12) (C := RX12) (T := TX12) (N := 54) (ty := .int) hx hb hts hin12 tyX12 tyX12_ok nmX12 hown hE hJ hP hS ha0 rfl rfl 52 (by decide) (hts (.fieldLink RX12 308 "OrderMoverModel" "makesMany" "I") (by decide +kernel)) (fun _ h9 => h9) rfl (by decide +kernel) rfl rfl (Nat.le_of_ble_eq_true rfl) rfl dX12_reduce_42 (fun H locs hP hS => ?_)
        obtain ⟨M42_3079, hM, h⟩ := sm_lt h
        rw [← hM] at hP; clear hM
        refine lv_aload_n hx hb dX12_reduce_45 rfl (lv_at hl 1 rfl) ?_
        obtain ⟨v46_3080, M46_3081, hc46_3082, h⟩ := sm_bd2 h
        refine sm_ci (va_runV (As := []) (rest := []) ⟨hx, hb, hml, hown, hts⟩ (k_X12_isLeft l D cA adr hJ a0 ha0 M42_3079 v46_3080 M46_3081 hc46_3082) (cwV 0 hts gX12_reduce_X12_isLeft rfl rfl rfl (by decide +kernel) ⟨Nat.le_of_ble_eq_true rfl, Nat.le_of_ble_eq_true rfl⟩) ⟨smPc_bl, smRv hE hP ha0 rfl (ci := 12) (q := (RX12, TX12, 54)) rfl, smPc_in [.ref (adr a0)] hE hP⟩ rfl rfl hl.1 rfl (lv_room (Nat.le_of_ble_eq_true rfl)) dX12_reduce_46 ⟨Nat.zero_le _, Nat.zero_le _⟩) hS (fun H locs hP hS => ?_)
        refine lv_bipush (v := (-4 : Int32)) hx hb dX12_reduce_49 (by decide) ?_
        refine lv_icmp_eq (tgt := 56) hx hb dX12_reduce_51 (by decide) (fun c51_3083 => ?_) (fun c51_3083 => ?_)
        · rw [if_pos c51_3083] at h
          refine lv_iconst (v := (0 : Int32)) hx hb dX12_reduce_56 (by decide) ?_
          refine lv_istore (lv' := [(4, .int (0 : Int32)), (3, .int v20_3069), (0, .ref (adr a0)), (1, .int x1), (2, .int x2)]) hx hb dX12_reduce_57 hl (by decide) rfl (fun ls hl => ?_)
          refine sm_lp (b := fun rc q => m_X12_reduce_b59 a0 x1 rc q.1 q.2) (P := fun (q : Int32 × smM) H locs ls => smP D cA 2 adr q.2 H ∧ va_S (smA 2 adr) s.heap H locs ∧ lv_has ls 5 [(0, .ref (adr a0)), (1, .int x1), (4, .int q.1)]) (pc := 59) ?_ _ _ _ _ _ h ⟨hP, hS, lv_sub hl [2, 3, 0] rfl⟩
          intro rc59_3086 ih59_3087 q H locs ls h hI
          obtain ⟨x4_59_3084, M59_3085⟩ := q
          obtain ⟨hP, hS, hl⟩ := hI
          have hP : smP D cA 2 adr M59_3085 H := hP
          have hl : lv_has ls 5 [(0, .ref (adr a0)), (1, .int x1), (4, .int x4_59_3084)] := hl
          have h : m_X12_reduce_b59 a0 x1 rc59_3086 x4_59_3084 M59_3085 = some _ := h
          unfold m_X12_reduce_b59 at h
          refine lv_iload hx hb dX12_reduce_59 (lv_at hl 2 rfl) ?_
          refine lv_aload_n hx hb dX12_reduce_61 rfl (lv_at hl 0 rfl) ?_
          refine sm_get (ci := 12) (C := RX12) (T := TX12) (N := 54) (v := .int (M59_3085 a0 29)) hx hb hts hin12 hown hE hP ha0 rfl rfl 29 (by decide) (hts (.fieldLink RX12 220 "OrderMoverModel" "stairs" "I") (by decide +kernel)) (fun _ h9 => h9) rfl dX12_reduce_62 ?_
          refine lv_icmp_ge (tgt := 105) hx hb dX12_reduce_65 (by decide) (fun c65_3088 => ?_) (fun c65_3088 => ?_)
          · rw [if_pos c65_3088] at h
            refine lv_aload_n hx hb dX12_reduce_105 rfl (lv_at hl 0 rfl) ?_
            refine lv_iload_n hx hb dX12_reduce_106 rfl (lv_at hl 1 rfl) ?_
            obtain ⟨v107_3089, M107_3090, hc107_3091, h⟩ := sm_bd2 h
            refine sm_ci (va_runV (As := [.int x1]) (rest := []) ⟨hx, hb, hml, hown, hts⟩ (k_X12_gives l D cA adr hJ a0 x1 ha0 M59_3085 v107_3089 M107_3090 hc107_3091) (cwV 1 hts gX12_reduce_X12_gives rfl rfl rfl (by decide +kernel) ⟨Nat.le_of_ble_eq_true rfl, Nat.le_of_ble_eq_true rfl⟩) ⟨smPc_bl, smRv hE hP ha0 rfl (ci := 12) (q := (RX12, TX12, 54)) rfl, smPc_in [.ref (adr a0), .int x1] hE hP⟩ rfl rfl hl.1 rfl (lv_room (Nat.le_of_ble_eq_true rfl)) dX12_reduce_107 ⟨Nat.zero_le _, Nat.zero_le _⟩) hS (fun H locs hP hS => ?_)
            cases h
            exact sm_iret hx hb hr hlocks hP hS dX12_reduce_110
          · rw [if_neg c65_3088] at h
            refine lv_aload_n hx hb dX12_reduce_68 rfl (lv_at hl 0 rfl) ?_
            refine lv_aload_n hx hb dX12_reduce_69 rfl (lv_at hl 0 rfl) ?_
            refine lv_aload_n hx hb dX12_reduce_70 rfl (lv_at hl 0 rfl) ?_
            refine sm_get (ci := 12) (C := RX12) (T := TX12) (N := 54) (v := .ref (adr (a0 + 31))) hx hb hts hin12 hown hE hP ha0 rfl rfl 41 (by decide) (hts (.fieldLink RX12 117 "OrderMoverModel" "made" "[I") (by decide +kernel)) (fun _ h9 => h9) rfl dX12_reduce_71 ?_
            refine lv_iload hx hb dX12_reduce_74 (lv_at hl 2 rfl) ?_
            obtain ⟨c76_3092, h⟩ := sm_ck h
            refine sm_iald hx hb hE hP (t12_41 ha0) c76_3092 dX12_reduce_76 ?_
            refine lv_ineg hx hb dX12_reduce_77 ?_
            refine lv_i2l hx hb dX12_reduce_78 rfl ?_
            obtain ⟨v79_3093, hc79_3095, h⟩ := sm_bd h
            refine sm_ci (va_runV (As := [.long (((-(M59_3085 (a0 + 31) (x4_59_3084).toNatClampNeg))).toInt64)]) (rest := [.ref (adr a0)]) ⟨hx, hb, hml, hown, hts⟩ (k_X12_mod l D cA adr hJ a0 (((-(M59_3085 (a0 + 31) (x4_59_3084).toNatClampNeg))).toInt64) ha0 M59_3085 v79_3093 hc79_3095) (cwV 1 hts gX12_reduce_X12_mod rfl rfl rfl (by decide +kernel) ⟨Nat.le_of_ble_eq_true rfl, Nat.le_of_ble_eq_true rfl⟩) ⟨smPc_bl, smRv hE hP ha0 rfl (ci := 12) (q := (RX12, TX12, 54)) rfl, smPc_in [.ref (adr a0), .long (((-(M59_3085 (a0 + 31) (x4_59_3084).toNatClampNeg))).toInt64)] hE hP⟩ rfl rfl hl.1 rfl (lv_room (Nat.le_of_ble_eq_true rfl)) dX12_reduce_79 ⟨Nat.zero_le _, Nat.zero_le _⟩) hS (fun H locs hP hS => ?_)
            refine lv_aload_n hx hb dX12_reduce_82 rfl (lv_at hl 0 rfl) ?_
            refine sm_get (ci := 12) (C := RX12) (T := TX12) (N := 54) (v := .ref (adr (a0 + 22))) hx hb hts hin12 hown hE hP ha0 rfl rfl 30 (by decide) (hts (.fieldLink RX12 90 "OrderMoverModel" "stairI" "[I") (by decide +kernel)) (fun _ h9 => h9) rfl dX12_reduce_83 ?_
            refine lv_iload hx hb dX12_reduce_86 (lv_at hl 2 rfl) ?_
            obtain ⟨c88_3096, h⟩ := sm_ck h
            refine sm_iald hx hb hE hP (t12_30 ha0) c88_3096 dX12_reduce_88 ?_
            refine lv_aload_n hx hb dX12_reduce_89 rfl (lv_at hl 0 rfl) ?_
            refine sm_get (ci := 12) (C := RX12) (T := TX12) (N := 54) (v := .ref (adr (a0 + 23))) hx hb hts hin12 hown hE hP ha0 rfl rfl 31 (by decide) (hts (.fieldLink RX12 93 "OrderMoverModel" "stairJ" "[I") (by decide +kernel)) (fun _ h9 => h9) rfl dX12_reduce_90 ?_
            refine lv_iload hx hb dX12_reduce_93 (lv_at hl 2 rfl) ?_
            obtain ⟨c95_3097, h⟩ := sm_ck h
            refine sm_iald hx hb hE hP (t12_31 ha0) c95_3097 dX12_reduce_95 ?_
            obtain ⟨M96_3099, hc96_3100, h⟩ := sm_bd h
            refine sm_cv (va_runV (As := [.int v79_3093, .int (M59_3085 (a0 + 22) (x4_59_3084).toNatClampNeg), .int (M59_3085 (a0 + 23) (x4_59_3084).toNatClampNeg)]) (rest := []) ⟨hx, hb, hml, hown, hts⟩ (k_X12_comes l D cA adr hJ a0 v79_3093 (M59_3085 (a0 + 22) (x4_59_3084).toNatClampNeg) (M59_3085 (a0 + 23) (x4_59_3084).toNatClampNeg) ha0 M59_3085 M96_3099 hc96_3100) (cwV 3 hts gX12_reduce_X12_comes rfl rfl rfl (by decide +kernel) ⟨Nat.le_of_ble_eq_true rfl, Nat.le_of_ble_eq_true rfl⟩) ⟨smPc_bl, smRv hE hP ha0 rfl (ci := 12) (q := (RX12, TX12, 54)) rfl, smPc_in [.ref (adr a0), .int v79_3093, .int (M59_3085 (a0 + 22) (x4_59_3084).toNatClampNeg), .int (M59_3085 (a0 + 23) (x4_59_3084).toNatClampNeg)] hE hP⟩ rfl rfl hl.1 rfl (lv_room (Nat.le_of_ble_eq_true rfl)) dX12_reduce_96 ⟨Nat.zero_le _, Nat.zero_le _⟩) hS (fun H locs hP hS => ?_)
            refine lv_iinc (v := (x4_59_3084 + (1 : Int32))) (lv' := [(4, .int (x4_59_3084 + (1 : Int32))), (0, .ref (adr a0)), (1, .int x1)]) hx hb dX12_reduce_99 hl (k := 2) rfl (congrArg (fun z => x4_59_3084 + z) (by decide)) (by decide) rfl (fun ls hl => ?_)
            refine lv_goto (tgt := 59) hx hb dX12_reduce_102 (by decide) ?_
            exact ih59_3087 ((x4_59_3084 + (1 : Int32)), M96_3099) _ _ _ h ⟨hP, hS, lv_sub hl [1, 2, 0] rfl⟩
        · rw [if_neg c51_3083] at h
          refine lv_iconst (v := (-1 : Int32)) hx hb dX12_reduce_54 (by decide) ?_
          cases h
          exact sm_iret hx hb hr hlocks hP hS dX12_reduce_55
      · rw [if_neg c25_3072] at h
        refine lv_iload_n hx hb dX12_reduce_28 rfl (lv_at hl 0 rfl) ?_
        cases h
        exact sm_iret hx hb hr hlocks hP hS dX12_reduce_29
    · rw [if_pos c12_3068] at h
      refine lv_iconst (v := (-1 : Int32)) hx hb dX12_reduce_15 (by decide) ?_
      cases h
      exact sm_iret hx hb hr hlocks hP hS dX12_reduce_16
set_option maxHeartbeats 4000000 in
set_option maxRecDepth 100000 in
theorem k_X12_root (l : Launch) (D : va_G) (cA : Nat → ClassId) (adr : Nat → Nat) (hJ : smJ 2 adr) (a0 : Nat) (x1 : Int32) (x2 : Int32) (ha0 : smT 2 a0 12) (M : smM) (v1 : Int32) (M1 : smM) (h : m_X12_root a0 x1 x2 M = some (v1, M1)) : Met l yX12_root wsX12_root ({ frames := 2, cells := 0, slots := 0, locals := 52 }) (smPc D cA 2 adr M [.ref (adr a0), .int x1, .int x2]) (smQi D cA 2 adr M1 v1) 0 0 (smA 2 adr) := by
  refine Met.ofW (cc := cX12_root) (maxL := 3) (ret := (some .int)) (by decide) rfl ?_
  intro p e s m args below meth c s₁ B hml hv
  obtain ⟨rfl, hE, hP⟩ := hv
  have hx := B.exec
  have hb := B.bytes
  have hr := B.returns
  have hts := atoms_spec (ws := wsX12_root) B.pre
  have hown : s.vm.findClass RX12 = some m.cls := findClass_of_methodNamed B.named
  have hlocks := B.notSynchronized
  have hS : va_S (smA 2 adr) s.heap s.heap [] := va_S.rf
  have hP : smP D cA 2 adr M s.heap := hP
  have hl := lv_entry ([.ref (adr a0), .int x1, .int x2]) (n := 3) (Nat.le_of_ble_eq_true rfl)
  rw [lg_entry_eq]
  generalize (lg_sl ([.ref (adr a0), .int x1, .int x2]) ++ List.replicate (3 - (lg_sl ([.ref (adr a0), .int x1, .int x2])).length) Slot.unset).toArray = ls at hl ⊢
  have hl : lv_has ls 3 [(0, .ref (adr a0)), (1, .int x1), (2, .int x2)] := hl
  unfold m_X12_root at h
  have hin12 : ∀ w ∈ u_ws RX12 TX12 54, w ∈ wsX12_root := by decide +kernel
  refine lv_iload_n hx hb dX12_root_0 rfl (lv_at hl 1 rfl) ?_
  refine lv_if_lt (tgt := 14) hx hb dX12_root_1 (by decide) (fun c1_3101 => ?_) (fun c1_3101 => ?_)
  · rw [if_pos c1_3101] at h
    refine lv_iconst (v := (-1 : Int32)) hx hb dX12_root_14 (by decide) ?_
    cases h
    exact sm_iret hx hb hr hlocks hP hS dX12_root_15
  · rw [if_neg c1_3101] at h
    refine lv_iload_n hx hb dX12_root_4 rfl (lv_at hl 2 rfl) ?_
    refine lv_i2l hx hb dX12_root_5 rfl ?_
    refine lv_lconst (v := (0 : Int64)) hx hb dX12_root_6 (by decide) ?_
    refine lv_lconst (v := (1 : Int64)) hx hb dX12_root_7 (by decide) ?_
    obtain ⟨v8_3102, hc8_3104, h⟩ := sm_bd h
    refine sm_ci (va_runS (As := [.long ((x2).toInt64), .long (0 : Int64), .long (1 : Int64)]) (rest := []) ⟨hx, hb, hml, hown, hts⟩ (k_X12_in l D cA adr hJ ((x2).toInt64) (0 : Int64) (1 : Int64)  M v8_3102 hc8_3104) (va_cwS 3 hts gX12_root_X12_in rfl rfl rfl (by decide +kernel) ⟨Nat.le_of_ble_eq_true rfl, Nat.le_of_ble_eq_true rfl⟩) ⟨smPc_bl, smPc_in [.long ((x2).toInt64), .long (0 : Int64), .long (1 : Int64)] hE hP⟩ rfl rfl hl.1 rfl (lv_room (Nat.le_of_ble_eq_true rfl)) dX12_root_8 ⟨Nat.zero_le _, Nat.zero_le _⟩) hS (fun H locs hP hS => ?_)
    refine lv_if_ne (tgt := 16) hx hb dX12_root_11 (by decide) (fun c11_3105 => ?_) (fun c11_3105 => ?_)
    · rw [if_neg c11_3105] at h
      refine lv_aload_n hx hb dX12_root_16 rfl (lv_at hl 0 rfl) ?_
      obtain ⟨M17_3107, hc17_3108, h⟩ := sm_bd h
      refine sm_cv (va_runV (As := []) (rest := []) ⟨hx, hb, hml, hown, hts⟩ (k_X12_findsRoots l D cA adr hJ a0 ha0 M M17_3107 hc17_3108) (cwV 0 hts gX12_root_X12_findsRoots rfl rfl rfl (by decide +kernel) ⟨Nat.le_of_ble_eq_true rfl, Nat.le_of_ble_eq_true rfl⟩) ⟨smPc_bl, smRv hE hP ha0 rfl (ci := 12) (q := (RX12, TX12, 54)) rfl, smPc_in [.ref (adr a0)] hE hP⟩ rfl rfl hl.1 rfl (lv_room (Nat.le_of_ble_eq_true rfl)) dX12_root_17 ⟨Nat.zero_le _, Nat.zero_le _⟩) hS (fun H locs hP hS => ?_)
      refine lv_iload_n hx hb dX12_root_20 rfl (lv_at hl 1 rfl) ?_
      refine lv_aload_n hx hb dX12_root_21 rfl (lv_at hl 0 rfl) ?_
      refine sm_get (ci := 12) (C := RX12) (T := TX12) (N := 54) (v := .int (M17_3107 a0 46)) hx hb hts hin12 hown hE hP ha0 rfl rfl 46 (by decide) (hts (.fieldLink RX12 285 "OrderMoverModel" "roots" "I") (by decide +kernel)) (fun _ h9 => h9) rfl dX12_root_22 ?_
      refine lv_icmp_lt (tgt := 33) hx hb dX12_root_25 (by decide) (fun c25_3109 => ?_) (fun c25_3109 => ?_)
      · rw [if_pos c25_3109] at h
        refine lv_iload_n hx hb dX12_root_33 rfl (lv_at hl 2 rfl) ?_
        refine lv_if_ne (tgt := 46) hx hb dX12_root_34 (by decide) (fun c34_3110 => ?_) (fun c34_3110 => ?_)
        · rw [if_neg c34_3110] at h
          refine lv_aload_n hx hb dX12_root_46 rfl (lv_at hl 0 rfl) ?_
          refine sm_get (ci := 12) (C := RX12) (T := TX12) (N := 54) (v := .ref (adr (a0 + 36))) hx hb hts hin12 hown hE hP ha0 rfl rfl 48 (by decide) (hts (.fieldLink RX12 132 "OrderMoverModel" "rootY" "[I") (by decide +kernel)) (fun _ h9 => h9) rfl dX12_root_47 ?_
          refine lv_iload_n hx hb dX12_root_50 rfl (lv_at hl 1 rfl) ?_
          obtain ⟨c51_3111, h⟩ := sm_ck h
          refine sm_iald hx hb hE hP (t12_48 ha0) c51_3111 dX12_root_51 ?_
          cases h
          exact sm_iret hx hb hr hlocks hP hS dX12_root_52
        · rw [if_pos c34_3110] at h
          refine lv_aload_n hx hb dX12_root_37 rfl (lv_at hl 0 rfl) ?_
          refine sm_get (ci := 12) (C := RX12) (T := TX12) (N := 54) (v := .ref (adr (a0 + 35))) hx hb hts hin12 hown hE hP ha0 rfl rfl 47 (by decide) (hts (.fieldLink RX12 129 "OrderMoverModel" "rootX" "[I") (by decide +kernel)) (fun _ h9 => h9) rfl dX12_root_38 ?_
          refine lv_iload_n hx hb dX12_root_41 rfl (lv_at hl 1 rfl) ?_
          obtain ⟨c42_3112, h⟩ := sm_ck h
          refine sm_iald hx hb hE hP (t12_47 ha0) c42_3112 dX12_root_42 ?_
          refine lv_goto (tgt := 52) hx hb dX12_root_43 (by decide) ?_
          cases h
          exact sm_iret hx hb hr hlocks hP hS dX12_root_52
      · rw [if_neg c25_3109] at h
        refine lv_bipush (v := (-4 : Int32)) hx hb dX12_root_28 (by decide) ?_
        refine lv_goto (tgt := 52) hx hb dX12_root_30 (by decide) ?_
        cases h
        exact sm_iret hx hb hr hlocks hP hS dX12_root_52
    · rw [if_pos c11_3105] at h
      refine lv_iconst (v := (-1 : Int32)) hx hb dX12_root_14 (by decide) ?_
      cases h
      exact sm_iret hx hb hr hlocks hP hS dX12_root_15
set_option maxHeartbeats 4000000 in
set_option maxRecDepth 100000 in
theorem k_X12_size (l : Launch) (D : va_G) (cA : Nat → ClassId) (adr : Nat → Nat) (hJ : smJ 2 adr) (a0 : Nat) (x1 : Int32) (ha0 : smT 2 a0 12) (M : smM) (v1 : Int32) (h : m_X12_size a0 x1 M = some v1) : Met l yX12_size wsX12_size ({ frames := 2, cells := 0, slots := 0, locals := 45 }) (smPc D cA 2 adr M [.ref (adr a0), .int x1]) (smQi D cA 2 adr M v1) 0 0 (smA 2 adr) := by
  refine Met.ofW (cc := cX12_size) (maxL := 2) (ret := (some .int)) (by decide) rfl ?_
  intro p e s m args below meth c s₁ B hml hv
  obtain ⟨rfl, hE, hP⟩ := hv
  have hx := B.exec
  have hb := B.bytes
  have hr := B.returns
  have hts := atoms_spec (ws := wsX12_size) B.pre
  have hown : s.vm.findClass RX12 = some m.cls := findClass_of_methodNamed B.named
  have hlocks := B.notSynchronized
  have hS : va_S (smA 2 adr) s.heap s.heap [] := va_S.rf
  have hP : smP D cA 2 adr M s.heap := hP
  have hl := lv_entry ([.ref (adr a0), .int x1]) (n := 2) (Nat.le_of_ble_eq_true rfl)
  rw [lg_entry_eq]
  generalize (lg_sl ([.ref (adr a0), .int x1]) ++ List.replicate (2 - (lg_sl ([.ref (adr a0), .int x1])).length) Slot.unset).toArray = ls at hl ⊢
  have hl : lv_has ls 2 [(0, .ref (adr a0)), (1, .int x1)] := hl
  unfold m_X12_size at h
  have hin12 : ∀ w ∈ u_ws RX12 TX12 54, w ∈ wsX12_size := by decide +kernel
  refine lv_iload_n hx hb dX12_size_0 rfl (lv_at hl 1 rfl) ?_
  obtain ⟨v1_3113, hc1_3115, h⟩ := sm_bd h
  refine sm_ci (va_runS (As := [.int x1]) (rest := []) ⟨hx, hb, hml, hown, hts⟩ (k_X12_isSlot l D cA adr hJ x1  M v1_3113 hc1_3115) (va_cwS 1 hts gX12_size_X12_isSlot rfl rfl rfl (by decide +kernel) ⟨Nat.le_of_ble_eq_true rfl, Nat.le_of_ble_eq_true rfl⟩) ⟨smPc_bl, smPc_in [.int x1] hE hP⟩ rfl rfl hl.1 rfl (lv_room (Nat.le_of_ble_eq_true rfl)) dX12_size_1 ⟨Nat.zero_le _, Nat.zero_le _⟩) hS (fun H locs hP hS => ?_)
  refine lv_if_ne (tgt := 11) hx hb dX12_size_4 (by decide) (fun c4_3116 => ?_) (fun c4_3116 => ?_)
  · rw [if_neg c4_3116] at h
    refine lv_aload_n hx hb dX12_size_11 rfl (lv_at hl 0 rfl) ?_
    refine sm_get (ci := 12) (C := RX12) (T := TX12) (N := 54) (v := .ref (adr (a0 + 2))) hx hb hts hin12 hown hE hP ha0 rfl rfl 6 (by decide) (hts (.fieldLink RX12 29 "OrderMoverModel" "kinds" "[I") (by decide +kernel)) (fun _ h9 => h9) rfl dX12_size_12 ?_
    refine lv_iload_n hx hb dX12_size_15 rfl (lv_at hl 1 rfl) ?_
    obtain ⟨c16_3117, h⟩ := sm_ck h
    refine sm_iald hx hb hE hP (t12_6 ha0) c16_3117 dX12_size_16 ?_
    refine lv_if_ne (tgt := 25) hx hb dX12_size_17 (by decide) (fun c17_3118 => ?_) (fun c17_3118 => ?_)
    · rw [if_neg c17_3118] at h
      refine lv_aload_n hx hb dX12_size_25 rfl (lv_at hl 0 rfl) ?_
      refine sm_get (ci := 12) (C := RX12) (T := TX12) (N := 54) (v := .ref (adr (a0 + 3))) hx hb hts hin12 hown hE hP ha0 rfl rfl 7 (by decide) (hts (.fieldLink RX12 32 "OrderMoverModel" "many" "[I") (by decide +kernel)) (fun _ h9 => h9) rfl dX12_size_26 ?_
      refine lv_iload_n hx hb dX12_size_29 rfl (lv_at hl 1 rfl) ?_
      obtain ⟨c30_3119, h⟩ := sm_ck h
      refine sm_iald hx hb hE hP (t12_7 ha0) c30_3119 dX12_size_30 ?_
      cases h
      exact sm_iret hx hb hr hlocks hP hS dX12_size_31
    · rw [if_pos c17_3118] at h
      refine lv_bipush (v := (-11 : Int32)) hx hb dX12_size_20 (by decide) ?_
      refine lv_goto (tgt := 31) hx hb dX12_size_22 (by decide) ?_
      cases h
      exact sm_iret hx hb hr hlocks hP hS dX12_size_31
  · rw [if_pos c4_3116] at h
    refine lv_iconst (v := (-1 : Int32)) hx hb dX12_size_7 (by decide) ?_
    refine lv_goto (tgt := 31) hx hb dX12_size_8 (by decide) ?_
    cases h
    exact sm_iret hx hb hr hlocks hP hS dX12_size_31
