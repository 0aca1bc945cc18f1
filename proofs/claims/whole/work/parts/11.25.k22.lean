set_option maxHeartbeats 4000000 in
set_option maxRecDepth 100000 in
theorem k_X12_stair (l : Launch) (D : va_G) (cA : Nat → ClassId) (adr : Nat → Nat) (hJ : smJ 2 adr) (a0 : Nat) (x1 : Int32) (x2 : Int32) (x3 : Int32) (ha0 : smT 2 a0 12) (M : smM) (v1 : Int32) (M1 : smM) (h : m_X12_stair a0 x1 x2 x3 M = some (v1, M1)) : Met l yX12_stair wsX12_stair ({ frames := 6, cells := 0, slots := 0, locals := 139 }) (smPc D cA 2 adr M [.ref (adr a0), .int x1, .int x2, .int x3]) (smQi D cA 2 adr M1 v1) 0 0 (smA 2 adr) := by
  refine Met.ofW (cc := cX12_stair) (maxL := 4) (ret := (some .int)) (by decide) rfl ?_
  intro p e s m args below meth c s₁ B hml hv
  obtain ⟨rfl, hE, hP⟩ := hv
  have hx := B.exec
  have hb := B.bytes
  have hr := B.returns
  have hts := atoms_spec (ws := wsX12_stair) B.pre
  have hown : s.vm.findClass RX12 = some m.cls := findClass_of_methodNamed B.named
  have hlocks := B.notSynchronized
  have hS : va_S (smA 2 adr) s.heap s.heap [] := va_S.rf
  have hP : smP D cA 2 adr M s.heap := hP
  have hl := lv_entry ([.ref (adr a0), .int x1, .int x2, .int x3]) (n := 4) (Nat.le_of_ble_eq_true rfl)
  rw [lg_entry_eq]
  generalize (lg_sl ([.ref (adr a0), .int x1, .int x2, .int x3]) ++ List.replicate (4 - (lg_sl ([.ref (adr a0), .int x1, .int x2, .int x3])).length) Slot.unset).toArray = ls at hl ⊢
  have hl : lv_has ls 4 [(0, .ref (adr a0)), (1, .int x1), (2, .int x2), (3, .int x3)] := hl
  unfold m_X12_stair at h
  have hin12 : ∀ w ∈ u_ws RX12 TX12 54, w ∈ wsX12_stair := by decide +kernel
  refine lv_aload_n hx hb dX12_stair_0 rfl (lv_at hl 0 rfl) ?_
  refine lv_iload_n hx hb dX12_stair_1 rfl (lv_at hl 1 rfl) ?_
  obtain ⟨v2_3120, hc2_3122, h⟩ := sm_bd h
  refine sm_ci (va_runV (As := [.int x1]) (rest := []) ⟨hx, hb, hml, hown, hts⟩ (k_X12_isOrder l D cA adr hJ a0 x1 ha0 M v2_3120 hc2_3122) (cwV 1 hts gX12_stair_X12_isOrder rfl rfl rfl (by decide +kernel) ⟨Nat.le_of_ble_eq_true rfl, Nat.le_of_ble_eq_true rfl⟩) ⟨smPc_bl, smRv hE hP ha0 rfl (ci := 12) (q := (RX12, TX12, 54)) rfl, smPc_in [.ref (adr a0), .int x1] hE hP⟩ rfl rfl hl.1 rfl (lv_room (Nat.le_of_ble_eq_true rfl)) dX12_stair_2 ⟨Nat.zero_le _, Nat.zero_le _⟩) hS (fun H locs hP hS => ?_)
  refine lv_if_eq (tgt := 34) hx hb dX12_stair_5 (by decide) (fun c5_3123 => ?_) (fun c5_3123 => ?_)
  · rw [if_pos c5_3123] at h
    refine lv_iconst (v := (-1 : Int32)) hx hb dX12_stair_34 (by decide) ?_
    cases h
    exact sm_iret hx hb hr hlocks hP hS dX12_stair_35
  · rw [if_neg c5_3123] at h
    refine lv_iload_n hx hb dX12_stair_8 rfl (lv_at hl 2 rfl) ?_
    refine lv_i2l hx hb dX12_stair_9 rfl ?_
    refine lv_lconst (v := (0 : Int64)) hx hb dX12_stair_10 (by decide) ?_
    refine lv_aload_n hx hb dX12_stair_11 rfl (lv_at hl 0 rfl) ?_
    obtain ⟨v12_3124, hc12_3126, h⟩ := sm_bd h
    refine sm_ci (va_runV (As := []) (rest := [.long (0 : Int64), .long ((x2).toInt64)]) ⟨hx, hb, hml, hown, hts⟩ (k_X12_dimension l D cA adr hJ a0 ha0 M v12_3124 hc12_3126) (cwV 0 hts gX12_stair_X12_dimension rfl rfl rfl (by decide +kernel) ⟨Nat.le_of_ble_eq_true rfl, Nat.le_of_ble_eq_true rfl⟩) ⟨smPc_bl, smRv hE hP ha0 rfl (ci := 12) (q := (RX12, TX12, 54)) rfl, smPc_in [.ref (adr a0)] hE hP⟩ rfl rfl hl.1 rfl (lv_room (Nat.le_of_ble_eq_true rfl)) dX12_stair_12 ⟨Nat.zero_le _, Nat.zero_le _⟩) hS (fun H locs hP hS => ?_)
    refine lv_iconst (v := (1 : Int32)) hx hb dX12_stair_15 (by decide) ?_
    refine lv_isub hx hb dX12_stair_16 ?_
    refine lv_i2l hx hb dX12_stair_17 rfl ?_
    obtain ⟨v18_3127, hc18_3129, h⟩ := sm_bd h
    refine sm_ci (va_runS (As := [.long ((x2).toInt64), .long (0 : Int64), .long (((v12_3124 - (1 : Int32))).toInt64)]) (rest := []) ⟨hx, hb, hml, hown, hts⟩ (k_X12_in l D cA adr hJ ((x2).toInt64) (0 : Int64) (((v12_3124 - (1 : Int32))).toInt64)  M v18_3127 hc18_3129) (va_cwS 3 hts gX12_stair_X12_in rfl rfl rfl (by decide +kernel) ⟨Nat.le_of_ble_eq_true rfl, Nat.le_of_ble_eq_true rfl⟩) ⟨smPc_bl, smPc_in [.long ((x2).toInt64), .long (0 : Int64), .long (((v12_3124 - (1 : Int32))).toInt64)] hE hP⟩ rfl rfl hl.1 rfl (lv_room (Nat.le_of_ble_eq_true rfl)) dX12_stair_18 ⟨Nat.zero_le _, Nat.zero_le _⟩) hS (fun H locs hP hS => ?_)
    refine lv_if_eq (tgt := 34) hx hb dX12_stair_21 (by decide) (fun c21_3130 => ?_) (fun c21_3130 => ?_)
    · rw [if_pos c21_3130] at h
      refine lv_iconst (v := (-1 : Int32)) hx hb dX12_stair_34 (by decide) ?_
      cases h
      exact sm_iret hx hb hr hlocks hP hS dX12_stair_35
    · rw [if_neg c21_3130] at h
      refine lv_iload_n hx hb dX12_stair_24 rfl (lv_at hl 3 rfl) ?_
      refine lv_i2l hx hb dX12_stair_25 rfl ?_
      refine lv_lconst (v := (0 : Int64)) hx hb dX12_stair_26 (by decide) ?_
      refine lv_lconst (v := (1 : Int64)) hx hb dX12_stair_27 (by decide) ?_
      obtain ⟨v28_3131, hc28_3133, h⟩ := sm_bd h
      refine sm_ci (va_runS (As := [.long ((x3).toInt64), .long (0 : Int64), .long (1 : Int64)]) (rest := []) ⟨hx, hb, hml, hown, hts⟩ (k_X12_in l D cA adr hJ ((x3).toInt64) (0 : Int64) (1 : Int64)  M v28_3131 hc28_3133) (va_cwS 3 hts gX12_stair_X12_in rfl rfl rfl (by decide +kernel) ⟨Nat.le_of_ble_eq_true rfl, Nat.le_of_ble_eq_true rfl⟩) ⟨smPc_bl, smPc_in [.long ((x3).toInt64), .long (0 : Int64), .long (1 : Int64)] hE hP⟩ rfl rfl hl.1 rfl (lv_room (Nat.le_of_ble_eq_true rfl)) dX12_stair_28 ⟨Nat.zero_le _, Nat.zero_le _⟩) hS (fun H locs hP hS => ?_)
      refine lv_if_ne (tgt := 36) hx hb dX12_stair_31 (by decide) (fun c31_3134 => ?_) (fun c31_3134 => ?_)
      · rw [if_neg c31_3134] at h
        refine lv_aload_n hx hb dX12_stair_36 rfl (lv_at hl 0 rfl) ?_
        refine lv_iload_n hx hb dX12_stair_37 rfl (lv_at hl 1 rfl) ?_
        obtain ⟨M38_3136, hc38_3137, h⟩ := sm_bd h
        refine sm_cv (va_runV (As := [.int x1]) (rest := []) ⟨hx, hb, hml, hown, hts⟩ (k_X12_walksNow l D cA adr hJ a0 x1 ha0 M M38_3136 hc38_3137) (cwV 1 hts gX12_stair_X12_walksNow rfl rfl rfl (by decide +kernel) ⟨Nat.le_of_ble_eq_true rfl, Nat.le_of_ble_eq_true rfl⟩) ⟨smPc_bl, smRv hE hP ha0 rfl (ci := 12) (q := (RX12, TX12, 54)) rfl, smPc_in [.ref (adr a0), .int x1] hE hP⟩ rfl rfl hl.1 rfl (lv_room (Nat.le_of_ble_eq_true rfl)) dX12_stair_38 ⟨Nat.zero_le _, Nat.zero_le _⟩) hS (fun H locs hP hS => ?_)
        refine lv_iload_n hx hb dX12_stair_41 rfl (lv_at hl 3 rfl) ?_
        refine lv_if_ne (tgt := 54) hx hb dX12_stair_42 (by decide) (fun c42_3138 => ?_) (fun c42_3138 => ?_)
        · rw [if_neg c42_3138] at h
          refine lv_aload_n hx hb dX12_stair_54 rfl (lv_at hl 0 rfl) ?_
          refine sm_get (ci := 12) (C := RX12) (T := TX12) (N := 54) (v := .ref (adr (a0 + 23))) hx hb hts hin12 hown hE hP ha0 rfl rfl 31 (by decide) (hts (.fieldLink RX12 93 "OrderMoverModel" "stairJ" "[I") (by decide +kernel)) (fun _ h9 => h9) rfl dX12_stair_55 ?_
          refine lv_iload_n hx hb dX12_stair_58 rfl (lv_at hl 2 rfl) ?_
          obtain ⟨c59_3139, h⟩ := sm_ck h
          refine sm_iald hx hb hE hP (t12_31 ha0) c59_3139 dX12_stair_59 ?_
          cases h
          exact sm_iret hx hb hr hlocks hP hS dX12_stair_60
        · rw [if_pos c42_3138] at h
          refine lv_aload_n hx hb dX12_stair_45 rfl (lv_at hl 0 rfl) ?_
          refine sm_get (ci := 12) (C := RX12) (T := TX12) (N := 54) (v := .ref (adr (a0 + 22))) hx hb hts hin12 hown hE hP ha0 rfl rfl 30 (by decide) (hts (.fieldLink RX12 90 "OrderMoverModel" "stairI" "[I") (by decide +kernel)) (fun _ h9 => h9) rfl dX12_stair_46 ?_
          refine lv_iload_n hx hb dX12_stair_49 rfl (lv_at hl 2 rfl) ?_
          obtain ⟨c50_3140, h⟩ := sm_ck h
          refine sm_iald hx hb hE hP (t12_30 ha0) c50_3140 dX12_stair_50 ?_
          refine lv_goto (tgt := 60) hx hb dX12_stair_51 (by decide) ?_
          cases h
          exact sm_iret hx hb hr hlocks hP hS dX12_stair_60
      · rw [if_pos c31_3134] at h
        refine lv_iconst (v := (-1 : Int32)) hx hb dX12_stair_34 (by decide) ?_
        cases h
        exact sm_iret hx hb hr hlocks hP hS dX12_stair_35
set_option maxHeartbeats 4000000 in
set_option maxRecDepth 100000 in
theorem k_X12_stands (l : Launch) (D : va_G) (cA : Nat → ClassId) (adr : Nat → Nat) (hJ : smJ 2 adr) (a0 : Nat) (x1 : Int32) (ha0 : smT 2 a0 12) (M : smM) (v1 : Int32) (M1 : smM) (h : m_X12_stands a0 x1 M = some (v1, M1)) : Met l yX12_stands wsX12_stands ({ frames := 5, cells := 0, slots := 0, locals := 118 }) (smPc D cA 2 adr M [.ref (adr a0), .int x1]) (smQi D cA 2 adr M1 v1) 0 0 (smA 2 adr) := by
  refine Met.ofW (cc := cX12_stands) (maxL := 6) (ret := (some .int)) (by decide) rfl ?_
  intro p e s m args below meth c s₁ B hml hv
  obtain ⟨rfl, hE, hP⟩ := hv
  have hx := B.exec
  have hb := B.bytes
  have hr := B.returns
  have hts := atoms_spec (ws := wsX12_stands) B.pre
  have hown : s.vm.findClass RX12 = some m.cls := findClass_of_methodNamed B.named
  have hlocks := B.notSynchronized
  have hS : va_S (smA 2 adr) s.heap s.heap [] := va_S.rf
  have hP : smP D cA 2 adr M s.heap := hP
  have hl := lv_entry ([.ref (adr a0), .int x1]) (n := 6) (Nat.le_of_ble_eq_true rfl)
  rw [lg_entry_eq]
  generalize (lg_sl ([.ref (adr a0), .int x1]) ++ List.replicate (6 - (lg_sl ([.ref (adr a0), .int x1])).length) Slot.unset).toArray = ls at hl ⊢
  have hl : lv_has ls 6 [(0, .ref (adr a0)), (1, .int x1)] := hl
  unfold m_X12_stands at h
  have hin12 : ∀ w ∈ u_ws RX12 TX12 54, w ∈ wsX12_stands := by decide +kernel
  refine lv_iload_n hx hb dX12_stands_0 rfl (lv_at hl 1 rfl) ?_
  obtain ⟨v1_3141, hc1_3143, h⟩ := sm_bd h
  refine sm_ci (va_runS (As := [.int x1]) (rest := []) ⟨hx, hb, hml, hown, hts⟩ (k_X12_isSlot l D cA adr hJ x1  M v1_3141 hc1_3143) (va_cwS 1 hts gX12_stands_X12_isSlot rfl rfl rfl (by decide +kernel) ⟨Nat.le_of_ble_eq_true rfl, Nat.le_of_ble_eq_true rfl⟩) ⟨smPc_bl, smPc_in [.int x1] hE hP⟩ rfl rfl hl.1 rfl (lv_room (Nat.le_of_ble_eq_true rfl)) dX12_stands_1 ⟨Nat.zero_le _, Nat.zero_le _⟩) hS (fun H locs hP hS => ?_)
  refine lv_if_ne (tgt := 9) hx hb dX12_stands_4 (by decide) (fun c4_3144 => ?_) (fun c4_3144 => ?_)
  · rw [if_neg c4_3144] at h
    refine lv_aload_n hx hb dX12_stands_9 rfl (lv_at hl 0 rfl) ?_
    refine lv_iload_n hx hb dX12_stands_10 rfl (lv_at hl 1 rfl) ?_
    refine lv_iconst (v := (2 : Int32)) hx hb dX12_stands_11 (by decide) ?_
    obtain ⟨v12_3145, hc12_3147, h⟩ := sm_bd h
    refine sm_ci (va_runV (As := [.int x1, .int (2 : Int32)]) (rest := []) ⟨hx, hb, hml, hown, hts⟩ (k_X12_lacks l D cA adr hJ a0 x1 (2 : Int32) ha0 M v12_3145 hc12_3147) (cwV 2 hts gX12_stands_X12_lacks rfl rfl rfl (by decide +kernel) ⟨Nat.le_of_ble_eq_true rfl, Nat.le_of_ble_eq_true rfl⟩) ⟨smPc_bl, smRv hE hP ha0 rfl (ci := 12) (q := (RX12, TX12, 54)) rfl, smPc_in [.ref (adr a0), .int x1, .int (2 : Int32)] hE hP⟩ rfl rfl hl.1 rfl (lv_room (Nat.le_of_ble_eq_true rfl)) dX12_stands_12 ⟨Nat.zero_le _, Nat.zero_le _⟩) hS (fun H locs hP hS => ?_)
    refine lv_istore_n (lv' := [(2, .int v12_3145), (0, .ref (adr a0)), (1, .int x1)]) hx hb dX12_stands_15 rfl hl (by decide) rfl (fun ls hl => ?_)
    refine lv_iload_n hx hb dX12_stands_16 rfl (lv_at hl 0 rfl) ?_
    refine lv_if_ge (tgt := 22) hx hb dX12_stands_17 (by decide) (fun c17_3148 => ?_) (fun c17_3148 => ?_)
    · rw [if_pos c17_3148] at h
      refine lv_aload_n hx hb dX12_stands_22 rfl (lv_at hl 1 rfl) ?_
      refine lv_aload_n hx hb dX12_stands_23 rfl (lv_at hl 1 rfl) ?_
      refine sm_get (ci := 12) (C := RX12) (T := TX12) (N := 54) (v := .ref (adr (a0 + 7))) hx hb hts hin12 hown hE hP ha0 rfl rfl 11 (by decide) (hts (.fieldLink RX12 44 "OrderMoverModel" "keptOrder" "[I") (by decide +kernel)) (fun _ h9 => h9) rfl dX12_stands_24 ?_
      refine lv_iload_n hx hb dX12_stands_27 rfl (lv_at hl 2 rfl) ?_
      obtain ⟨c28_3149, h⟩ := sm_ck h
      refine sm_iald hx hb hE hP (t12_11 ha0) c28_3149 dX12_stands_28 ?_
      refine lv_aload_n hx hb dX12_stands_29 rfl (lv_at hl 1 rfl) ?_
      refine sm_get (ci := 12) (C := RX12) (T := TX12) (N := 54) (v := .ref (adr (a0 + 8))) hx hb hts hin12 hown hE hP ha0 rfl rfl 12 (by decide) (hts (.fieldLink RX12 47 "OrderMoverModel" "keptU" "[I") (by decide +kernel)) (fun _ h9 => h9) rfl dX12_stands_30 ?_
      refine lv_iload_n hx hb dX12_stands_33 rfl (lv_at hl 2 rfl) ?_
      obtain ⟨c34_3150, h⟩ := sm_ck h
      refine sm_iald hx hb hE hP (t12_12 ha0) c34_3150 dX12_stands_34 ?_
      refine lv_aload_n hx hb dX12_stands_35 rfl (lv_at hl 1 rfl) ?_
      refine sm_get (ci := 12) (C := RX12) (T := TX12) (N := 54) (v := .ref (adr (a0 + 9))) hx hb hts hin12 hown hE hP ha0 rfl rfl 13 (by decide) (hts (.fieldLink RX12 50 "OrderMoverModel" "keptV" "[I") (by decide +kernel)) (fun _ h9 => h9) rfl dX12_stands_36 ?_
      refine lv_iload_n hx hb dX12_stands_39 rfl (lv_at hl 2 rfl) ?_
      obtain ⟨c40_3151, h⟩ := sm_ck h
      refine sm_iald hx hb hE hP (t12_13 ha0) c40_3151 dX12_stands_40 ?_
      obtain ⟨M41_3153, hc41_3154, h⟩ := sm_bd h
      refine sm_cv (va_runV (As := [.int (M (a0 + 7) (x1).toNatClampNeg), .int (M (a0 + 8) (x1).toNatClampNeg), .int (M (a0 + 9) (x1).toNatClampNeg)]) (rest := []) ⟨hx, hb, hml, hown, hts⟩ (k_X12_walks l D cA adr hJ a0 (M (a0 + 7) (x1).toNatClampNeg) (M (a0 + 8) (x1).toNatClampNeg) (M (a0 + 9) (x1).toNatClampNeg) ha0 M M41_3153 hc41_3154) (cwV 3 hts gX12_stands_X12_walks rfl rfl rfl (by decide +kernel) ⟨Nat.le_of_ble_eq_true rfl, Nat.le_of_ble_eq_true rfl⟩) ⟨smPc_bl, smRv hE hP ha0 rfl (ci := 12) (q := (RX12, TX12, 54)) rfl, smPc_in [.ref (adr a0), .int (M (a0 + 7) (x1).toNatClampNeg), .int (M (a0 + 8) (x1).toNatClampNeg), .int (M (a0 + 9) (x1).toNatClampNeg)] hE hP⟩ rfl rfl hl.1 rfl (lv_room (Nat.le_of_ble_eq_true rfl)) dX12_stands_41 ⟨Nat.zero_le _, Nat.zero_le _⟩) hS (fun H locs hP hS => ?_)
      refine lv_aload_n hx hb dX12_stands_44 rfl (lv_at hl 1 rfl) ?_
      refine sm_get (ci := 12) (C := RX12) (T := TX12) (N := 54) (v := .int (M41_3153 a0 34)) hx hb hts hin12 hown hE hP ha0 rfl rfl 34 (by decide) (hts (.fieldLink RX12 230 "OrderMoverModel" "members" "I") (by decide +kernel)) (fun _ h9 => h9) rfl dX12_stands_45 ?_
      refine lv_aload_n hx hb dX12_stands_48 rfl (lv_at hl 1 rfl) ?_
      refine sm_get (ci := 12) (C := RX12) (T := TX12) (N := 54) (v := .ref (adr (a0 + 3))) hx hb hts hin12 hown hE hP ha0 rfl rfl 7 (by decide) (hts (.fieldLink RX12 32 "OrderMoverModel" "many" "[I") (by decide +kernel)) (fun _ h9 => h9) rfl dX12_stands_49 ?_
      refine lv_iload_n hx hb dX12_stands_52 rfl (lv_at hl 2 rfl) ?_
      obtain ⟨c53_3155, h⟩ := sm_ck h
      refine sm_iald hx hb hE hP (t12_7 ha0) c53_3155 dX12_stands_53 ?_
      refine sm_jn (x := (v1, M1)) (T := fun (q : Int32) => m_X12_stands_j62 a0 x1 M41_3153 q) (P := fun (q : Int32) H locs ls => smP D cA 2 adr M41_3153 H ∧ va_S (smA 2 adr) s.heap H locs ∧ lv_has ls 6 [(0, .ref (adr a0)), (1, .int x1)]) (st := fun (q : Int32) => [.int q]) (pc := 62) ?_ (fun J62_3157 => ?_)
      · intro q H locs ls h hI
        obtain ⟨s0_62_3156, hq⟩ : ∃ y, y = q := ⟨_, rfl⟩; subst hq
        obtain ⟨hP, hS, hl⟩ := hI
        have hP : smP D cA 2 adr M41_3153 H := hP
        have hl : lv_has ls 6 [(0, .ref (adr a0)), (1, .int x1)] := hl
        have h : m_X12_stands_j62 a0 x1 M41_3153 s0_62_3156 = some _ := h
        unfold m_X12_stands_j62 at h
        refine W.eq (g2 := F0 m 62 ls [.int s0_62_3156]) rfl ?_
        refine lv_istore_n (lv' := [(3, .int s0_62_3156), (0, .ref (adr a0)), (1, .int x1)]) hx hb dX12_stands_62 rfl hl (by decide) rfl (fun ls hl => ?_)
        refine lv_iconst (v := (0 : Int32)) hx hb dX12_stands_63 (by decide) ?_
        refine lv_istore (lv' := [(4, .int (0 : Int32)), (3, .int s0_62_3156), (0, .ref (adr a0)), (1, .int x1)]) hx hb dX12_stands_64 hl (by decide) rfl (fun ls hl => ?_)
        refine sm_lp (b := fun rc q => m_X12_stands_b66 a0 x1 M41_3153 rc q.1 q.2) (P := fun (q : Int32 × Int32) H locs ls => smP D cA 2 adr M41_3153 H ∧ va_S (smA 2 adr) s.heap H locs ∧ lv_has ls 6 [(0, .ref (adr a0)), (1, .int x1), (3, .int q.1), (4, .int q.2)]) (pc := 66) ?_ _ _ _ _ _ h ⟨hP, hS, lv_sub hl [2, 3, 1, 0] rfl⟩
        intro rc66_3160 ih66_3161 q H locs ls h hI
        obtain ⟨x3_66_3158, x4_66_3159⟩ := q
        obtain ⟨hP, hS, hl⟩ := hI
        have hP : smP D cA 2 adr M41_3153 H := hP
        have hl : lv_has ls 6 [(0, .ref (adr a0)), (1, .int x1), (3, .int x3_66_3158), (4, .int x4_66_3159)] := hl
        have h : m_X12_stands_b66 a0 x1 M41_3153 rc66_3160 x3_66_3158 x4_66_3159 = some _ := h
        unfold m_X12_stands_b66 at h
        refine lv_iload hx hb dX12_stands_66 (lv_at hl 3 rfl) ?_
        refine lv_aload_n hx hb dX12_stands_68 rfl (lv_at hl 0 rfl) ?_
        refine sm_get (ci := 12) (C := RX12) (T := TX12) (N := 54) (v := .int (M41_3153 a0 34)) hx hb hts hin12 hown hE hP ha0 rfl rfl 34 (by decide) (hts (.fieldLink RX12 230 "OrderMoverModel" "members" "I") (by decide +kernel)) (fun _ h9 => h9) rfl dX12_stands_69 ?_
        refine sm_jn (x := (v1, M1)) (T := fun (q : Unit) => m_X12_stands_j135 a0 x1 x3_66_3158 M41_3153 rc66_3160) (P := fun (q : Unit) H locs ls => smP D cA 2 adr M41_3153 H ∧ va_S (smA 2 adr) s.heap H locs ∧ lv_has ls 6 [(0, .ref (adr a0)), (1, .int x1), (3, .int x3_66_3158)]) (st := fun (q : Unit) => []) (pc := 135) ?_ (fun J135_3162 => ?_)
        · intro q H locs ls h hI
          obtain ⟨hP, hS, hl⟩ := hI
          have hP : smP D cA 2 adr M41_3153 H := hP
          have hl : lv_has ls 6 [(0, .ref (adr a0)), (1, .int x1), (3, .int x3_66_3158)] := hl
          have h : m_X12_stands_j135 a0 x1 x3_66_3158 M41_3153 rc66_3160 = some _ := h
          unfold m_X12_stands_j135 at h
          refine W.eq (g2 := F0 m 135 ls []) rfl ?_
          refine lv_iconst (v := (0 : Int32)) hx hb dX12_stands_135 (by decide) ?_
          refine lv_istore (lv' := [(4, .int (0 : Int32)), (0, .ref (adr a0)), (1, .int x1), (3, .int x3_66_3158)]) hx hb dX12_stands_136 hl (by decide) rfl (fun ls hl => ?_)
          refine sm_lp (b := fun rc q => m_X12_stands_b138 a0 x1 M41_3153 rc66_3160 rc q.1 q.2) (P := fun (q : Int32 × Int32) H locs ls => smP D cA 2 adr M41_3153 H ∧ va_S (smA 2 adr) s.heap H locs ∧ lv_has ls 6 [(0, .ref (adr a0)), (1, .int x1), (3, .int q.1), (4, .int q.2)]) (pc := 138) ?_ _ _ _ _ _ h ⟨hP, hS, lv_sub hl [1, 2, 3, 0] rfl⟩
          intro rc138_3165 ih138_3166 q H locs ls h hI
          obtain ⟨x3_138_3163, x4_138_3164⟩ := q
          obtain ⟨hP, hS, hl⟩ := hI
          have hP : smP D cA 2 adr M41_3153 H := hP
          have hl : lv_has ls 6 [(0, .ref (adr a0)), (1, .int x1), (3, .int x3_138_3163), (4, .int x4_138_3164)] := hl
          have h : m_X12_stands_b138 a0 x1 M41_3153 rc66_3160 rc138_3165 x3_138_3163 x4_138_3164 = some _ := h
          unfold m_X12_stands_b138 at h
          refine lv_iload hx hb dX12_stands_138 (lv_at hl 3 rfl) ?_
          refine lv_aload_n hx hb dX12_stands_140 rfl (lv_at hl 0 rfl) ?_
          refine sm_get (ci := 12) (C := RX12) (T := TX12) (N := 54) (v := .int (M41_3153 a0 34)) hx hb hts hin12 hown hE hP ha0 rfl rfl 34 (by decide) (hts (.fieldLink RX12 230 "OrderMoverModel" "members" "I") (by decide +kernel)) (fun _ h9 => h9) rfl dX12_stands_141 ?_
          refine lv_icmp_ge (tgt := 219) hx hb dX12_stands_144 (by decide) (fun c144_3167 => ?_) (fun c144_3167 => ?_)
          · rw [if_pos c144_3167] at h
            refine lv_iload_n hx hb dX12_stands_219 rfl (lv_at hl 2 rfl) ?_
            refine lv_if_eq (tgt := 227) hx hb dX12_stands_220 (by decide) (fun c220_3168 => ?_) (fun c220_3168 => ?_)
            · rw [if_pos c220_3168] at h
              refine lv_iconst (v := (0 : Int32)) hx hb dX12_stands_227 (by decide) ?_
              cases h
              exact sm_iret hx hb hr hlocks hP hS dX12_stands_228
            · rw [if_neg c220_3168] at h
              refine lv_iconst (v := (1 : Int32)) hx hb dX12_stands_223 (by decide) ?_
              refine lv_goto (tgt := 228) hx hb dX12_stands_224 (by decide) ?_
              cases h
              exact sm_iret hx hb hr hlocks hP hS dX12_stands_228
          · rw [if_neg c144_3167] at h
            refine lv_iload_n hx hb dX12_stands_147 rfl (lv_at hl 2 rfl) ?_
            refine lv_if_eq (tgt := 219) hx hb dX12_stands_148 (by decide) (fun c148_3169 => ?_) (fun c148_3169 => ?_)
            · rw [if_pos c148_3169] at h
              refine lv_iload_n hx hb dX12_stands_219 rfl (lv_at hl 2 rfl) ?_
              refine lv_if_eq (tgt := 227) hx hb dX12_stands_220 (by decide) (fun c220_3170 => ?_) (fun c220_3170 => ?_)
              · rw [if_pos c220_3170] at h
                refine lv_iconst (v := (0 : Int32)) hx hb dX12_stands_227 (by decide) ?_
                cases h
                exact sm_iret hx hb hr hlocks hP hS dX12_stands_228
              · rw [if_neg c220_3170] at h
                refine lv_iconst (v := (1 : Int32)) hx hb dX12_stands_223 (by decide) ?_
                refine lv_goto (tgt := 228) hx hb dX12_stands_224 (by decide) ?_
                cases h
                exact sm_iret hx hb hr hlocks hP hS dX12_stands_228
            · rw [if_neg c148_3169] at h
              refine lv_iconst (v := (0 : Int32)) hx hb dX12_stands_151 (by decide) ?_
              refine lv_istore (lv' := [(5, .int (0 : Int32)), (0, .ref (adr a0)), (1, .int x1), (3, .int x3_138_3163), (4, .int x4_138_3164)]) hx hb dX12_stands_152 hl (by decide) rfl (fun ls hl => ?_)
              refine sm_lp (b := fun rc q => m_X12_stands_b154 a0 x1 x4_138_3164 M41_3153 rc66_3160 rc138_3165 rc q.1 q.2) (P := fun (q : Int32 × Int32) H locs ls => smP D cA 2 adr M41_3153 H ∧ va_S (smA 2 adr) s.heap H locs ∧ lv_has ls 6 [(0, .ref (adr a0)), (1, .int x1), (3, .int q.1), (4, .int x4_138_3164), (5, .int q.2)]) (pc := 154) ?_ _ _ _ _ _ h ⟨hP, hS, lv_sub hl [1, 2, 3, 4, 0] rfl⟩
              intro rc154_3173 ih154_3174 q H locs ls h hI
              obtain ⟨x3_154_3171, x5_154_3172⟩ := q
              obtain ⟨hP, hS, hl⟩ := hI
              have hP : smP D cA 2 adr M41_3153 H := hP
              have hl : lv_has ls 6 [(0, .ref (adr a0)), (1, .int x1), (3, .int x3_154_3171), (4, .int x4_138_3164), (5, .int x5_154_3172)] := hl
              have h : m_X12_stands_b154 a0 x1 x4_138_3164 M41_3153 rc66_3160 rc138_3165 rc154_3173 x3_154_3171 x5_154_3172 = some _ := h
              unfold m_X12_stands_b154 at h
              refine lv_iload hx hb dX12_stands_154 (lv_at hl 4 rfl) ?_
              refine lv_aload_n hx hb dX12_stands_156 rfl (lv_at hl 0 rfl) ?_
              refine sm_get (ci := 12) (C := RX12) (T := TX12) (N := 54) (v := .int (M41_3153 a0 29)) hx hb hts hin12 hown hE hP ha0 rfl rfl 29 (by decide) (hts (.fieldLink RX12 220 "OrderMoverModel" "stairs" "I") (by decide +kernel)) (fun _ h9 => h9) rfl dX12_stands_157 ?_
              refine lv_icmp_ge (tgt := 213) hx hb dX12_stands_160 (by decide) (fun c160_3175 => ?_) (fun c160_3175 => ?_)
              · rw [if_pos c160_3175] at h
                refine lv_iinc (v := (x4_138_3164 + (1 : Int32))) (lv' := [(4, .int (x4_138_3164 + (1 : Int32))), (0, .ref (adr a0)), (1, .int x1), (3, .int x3_154_3171), (5, .int x5_154_3172)]) hx hb dX12_stands_213 hl (k := 3) rfl (congrArg (fun z => x4_138_3164 + z) (by decide)) (by decide) rfl (fun ls hl => ?_)
                refine lv_goto (tgt := 138) hx hb dX12_stands_216 (by decide) ?_
                exact ih138_3166 (x3_154_3171, (x4_138_3164 + (1 : Int32))) _ _ _ h ⟨hP, hS, lv_sub hl [1, 2, 3, 0] rfl⟩
              · rw [if_neg c160_3175] at h
                refine lv_iload_n hx hb dX12_stands_163 rfl (lv_at hl 2 rfl) ?_
                refine lv_if_eq (tgt := 205) hx hb dX12_stands_164 (by decide) (fun c164_3176 => ?_) (fun c164_3176 => ?_)
                · rw [if_pos c164_3176] at h
                  refine lv_iconst (v := (0 : Int32)) hx hb dX12_stands_205 (by decide) ?_
                  refine lv_istore_n (lv' := [(3, .int (0 : Int32)), (0, .ref (adr a0)), (1, .int x1), (4, .int x4_138_3164), (5, .int x5_154_3172)]) hx hb dX12_stands_206 rfl hl (by decide) rfl (fun ls hl => ?_)
                  refine lv_iinc (v := (x5_154_3172 + (1 : Int32))) (lv' := [(5, .int (x5_154_3172 + (1 : Int32))), (3, .int (0 : Int32)), (0, .ref (adr a0)), (1, .int x1), (4, .int x4_138_3164)]) hx hb dX12_stands_207 hl (k := 4) rfl (congrArg (fun z => x5_154_3172 + z) (by decide)) (by decide) rfl (fun ls hl => ?_)
                  refine lv_goto (tgt := 154) hx hb dX12_stands_210 (by decide) ?_
                  exact ih154_3174 ((0 : Int32), (x5_154_3172 + (1 : Int32))) _ _ _ h ⟨hP, hS, lv_sub hl [2, 3, 1, 4, 0] rfl⟩
                · rw [if_neg c164_3176] at h
                  refine lv_aload_n hx hb dX12_stands_167 rfl (lv_at hl 0 rfl) ?_
                  refine sm_get (ci := 12) (C := RX12) (T := TX12) (N := 54) (v := .ref (adr (a0 + 12))) hx hb hts hin12 hown hE hP ha0 rfl rfl 16 (by decide) (hts (.fieldLink RX12 59 "OrderMoverModel" "keptTails" "[I") (by decide +kernel)) (fun _ h9 => h9) rfl dX12_stands_168 ?_
                  refine lv_bipush (v := (90 : Int32)) hx hb dX12_stands_171 (by decide) ?_
                  refine lv_iload_n hx hb dX12_stands_173 rfl (lv_at hl 1 rfl) ?_
                  refine lv_imul hx hb dX12_stands_174 ?_
                  refine lv_bipush (v := (9 : Int32)) hx hb dX12_stands_175 (by decide) ?_
                  refine lv_iload hx hb dX12_stands_177 (lv_at hl 3 rfl) ?_
                  refine lv_imul hx hb dX12_stands_179 ?_
                  refine lv_iadd hx hb dX12_stands_180 ?_
                  refine lv_iload hx hb dX12_stands_181 (lv_at hl 4 rfl) ?_
                  refine lv_iadd hx hb dX12_stands_183 ?_
                  obtain ⟨c184_3177, h⟩ := sm_ck h
                  refine sm_iald hx hb hE hP (t12_16 ha0) c184_3177 dX12_stands_184 ?_
                  refine lv_aload_n hx hb dX12_stands_185 rfl (lv_at hl 0 rfl) ?_
                  refine sm_get (ci := 12) (C := RX12) (T := TX12) (N := 54) (v := .ref (adr (a0 + 28))) hx hb hts hin12 hown hE hP ha0 rfl rfl 37 (by decide) (hts (.fieldLink RX12 108 "OrderMoverModel" "tails" "[I") (by decide +kernel)) (fun _ h9 => h9) rfl dX12_stands_186 ?_
                  refine lv_bipush (v := (9 : Int32)) hx hb dX12_stands_189 (by decide) ?_
                  refine lv_iload hx hb dX12_stands_191 (lv_at hl 3 rfl) ?_
                  refine lv_imul hx hb dX12_stands_193 ?_
                  refine lv_iload hx hb dX12_stands_194 (lv_at hl 4 rfl) ?_
                  refine lv_iadd hx hb dX12_stands_196 ?_
                  obtain ⟨c197_3178, h⟩ := sm_ck h
                  refine sm_iald hx hb hE hP (t12_37 ha0) c197_3178 dX12_stands_197 ?_
                  refine lv_icmp_ne (tgt := 205) hx hb dX12_stands_198 (by decide) (fun c198_3179 => ?_) (fun c198_3179 => ?_)
                  · rw [if_neg c198_3179] at h
                    refine lv_iconst (v := (0 : Int32)) hx hb dX12_stands_205 (by decide) ?_
                    refine lv_istore_n (lv' := [(3, .int (0 : Int32)), (0, .ref (adr a0)), (1, .int x1), (4, .int x4_138_3164), (5, .int x5_154_3172)]) hx hb dX12_stands_206 rfl hl (by decide) rfl (fun ls hl => ?_)
                    refine lv_iinc (v := (x5_154_3172 + (1 : Int32))) (lv' := [(5, .int (x5_154_3172 + (1 : Int32))), (3, .int (0 : Int32)), (0, .ref (adr a0)), (1, .int x1), (4, .int x4_138_3164)]) hx hb dX12_stands_207 hl (k := 4) rfl (congrArg (fun z => x5_154_3172 + z) (by decide)) (by decide) rfl (fun ls hl => ?_)
                    refine lv_goto (tgt := 154) hx hb dX12_stands_210 (by decide) ?_
                    exact ih154_3174 ((0 : Int32), (x5_154_3172 + (1 : Int32))) _ _ _ h ⟨hP, hS, lv_sub hl [2, 3, 1, 4, 0] rfl⟩
                  · rw [if_pos c198_3179] at h
                    refine lv_iconst (v := (1 : Int32)) hx hb dX12_stands_201 (by decide) ?_
                    refine lv_goto (tgt := 206) hx hb dX12_stands_202 (by decide) ?_
                    refine lv_istore_n (lv' := [(3, .int (1 : Int32)), (0, .ref (adr a0)), (1, .int x1), (4, .int x4_138_3164), (5, .int x5_154_3172)]) hx hb dX12_stands_206 rfl hl (by decide) rfl (fun ls hl => ?_)
                    refine lv_iinc (v := (x5_154_3172 + (1 : Int32))) (lv' := [(5, .int (x5_154_3172 + (1 : Int32))), (3, .int (1 : Int32)), (0, .ref (adr a0)), (1, .int x1), (4, .int x4_138_3164)]) hx hb dX12_stands_207 hl (k := 4) rfl (congrArg (fun z => x5_154_3172 + z) (by decide)) (by decide) rfl (fun ls hl => ?_)
                    refine lv_goto (tgt := 154) hx hb dX12_stands_210 (by decide) ?_
                    exact ih154_3174 ((1 : Int32), (x5_154_3172 + (1 : Int32))) _ _ _ h ⟨hP, hS, lv_sub hl [2, 3, 1, 4, 0] rfl⟩
        refine lv_icmp_ge (tgt := 135) hx hb dX12_stands_72 (by decide) (fun c72_3180 => ?_) (fun c72_3180 => ?_)
        · rw [if_pos c72_3180] at h
          exact J135_3162 () _ _ _ h ⟨hP, hS, lv_sub hl [0, 1, 2] rfl⟩
        · rw [if_neg c72_3180] at h
          refine lv_iload_n hx hb dX12_stands_75 rfl (lv_at hl 2 rfl) ?_
          refine lv_if_eq (tgt := 135) hx hb dX12_stands_76 (by decide) (fun c76_3181 => ?_) (fun c76_3181 => ?_)
          · rw [if_pos c76_3181] at h
            exact J135_3162 () _ _ _ h ⟨hP, hS, lv_sub hl [0, 1, 2] rfl⟩
          · rw [if_neg c76_3181] at h
            refine lv_aload_n hx hb dX12_stands_79 rfl (lv_at hl 0 rfl) ?_
            refine sm_get (ci := 12) (C := RX12) (T := TX12) (N := 54) (v := .ref (adr (a0 + 10))) hx hb hts hin12 hown hE hP ha0 rfl rfl 14 (by decide) (hts (.fieldLink RX12 53 "OrderMoverModel" "keptI" "[I") (by decide +kernel)) (fun _ h9 => h9) rfl dX12_stands_80 ?_
            refine lv_bipush (v := (10 : Int32)) hx hb dX12_stands_83 (by decide) ?_
            refine lv_iload_n hx hb dX12_stands_85 rfl (lv_at hl 1 rfl) ?_
            refine lv_imul hx hb dX12_stands_86 ?_
            refine lv_iload hx hb dX12_stands_87 (lv_at hl 3 rfl) ?_
            refine lv_iadd hx hb dX12_stands_89 ?_
            obtain ⟨c90_3182, h⟩ := sm_ck h
            refine sm_iald hx hb hE hP (t12_14 ha0) c90_3182 dX12_stands_90 ?_
            refine lv_aload_n hx hb dX12_stands_91 rfl (lv_at hl 0 rfl) ?_
            refine sm_get (ci := 12) (C := RX12) (T := TX12) (N := 54) (v := .ref (adr (a0 + 26))) hx hb hts hin12 hown hE hP ha0 rfl rfl 35 (by decide) (hts (.fieldLink RX12 102 "OrderMoverModel" "memberI" "[I") (by decide +kernel)) (fun _ h9 => h9) rfl dX12_stands_92 ?_
            refine lv_iload hx hb dX12_stands_95 (lv_at hl 3 rfl) ?_
            obtain ⟨c97_3183, h⟩ := sm_ck h
            refine sm_iald hx hb hE hP (t12_35 ha0) c97_3183 dX12_stands_97 ?_
            refine lv_icmp_ne (tgt := 127) hx hb dX12_stands_98 (by decide) (fun c98_3184 => ?_) (fun c98_3184 => ?_)
            · rw [if_neg c98_3184] at h
              refine lv_iconst (v := (0 : Int32)) hx hb dX12_stands_127 (by decide) ?_
              refine lv_istore_n (lv' := [(3, .int (0 : Int32)), (0, .ref (adr a0)), (1, .int x1), (4, .int x4_66_3159)]) hx hb dX12_stands_128 rfl hl (by decide) rfl (fun ls hl => ?_)
              refine lv_iinc (v := (x4_66_3159 + (1 : Int32))) (lv' := [(4, .int (x4_66_3159 + (1 : Int32))), (3, .int (0 : Int32)), (0, .ref (adr a0)), (1, .int x1)]) hx hb dX12_stands_129 hl (k := 3) rfl (congrArg (fun z => x4_66_3159 + z) (by decide)) (by decide) rfl (fun ls hl => ?_)
              refine lv_goto (tgt := 66) hx hb dX12_stands_132 (by decide) ?_
              exact ih66_3161 ((0 : Int32), (x4_66_3159 + (1 : Int32))) _ _ _ h ⟨hP, hS, lv_sub hl [2, 3, 1, 0] rfl⟩
            · rw [if_pos c98_3184] at h
              refine lv_aload_n hx hb dX12_stands_101 rfl (lv_at hl 0 rfl) ?_
              refine sm_get (ci := 12) (C := RX12) (T := TX12) (N := 54) (v := .ref (adr (a0 + 11))) hx hb hts hin12 hown hE hP ha0 rfl rfl 15 (by decide) (hts (.fieldLink RX12 56 "OrderMoverModel" "keptJ" "[I") (by decide +kernel)) (fun _ h9 => h9) rfl dX12_stands_102 ?_
              refine lv_bipush (v := (10 : Int32)) hx hb dX12_stands_105 (by decide) ?_
              refine lv_iload_n hx hb dX12_stands_107 rfl (lv_at hl 1 rfl) ?_
              refine lv_imul hx hb dX12_stands_108 ?_
              refine lv_iload hx hb dX12_stands_109 (lv_at hl 3 rfl) ?_
              refine lv_iadd hx hb dX12_stands_111 ?_
              obtain ⟨c112_3185, h⟩ := sm_ck h
              refine sm_iald hx hb hE hP (t12_15 ha0) c112_3185 dX12_stands_112 ?_
              refine lv_aload_n hx hb dX12_stands_113 rfl (lv_at hl 0 rfl) ?_
              refine sm_get (ci := 12) (C := RX12) (T := TX12) (N := 54) (v := .ref (adr (a0 + 27))) hx hb hts hin12 hown hE hP ha0 rfl rfl 36 (by decide) (hts (.fieldLink RX12 105 "OrderMoverModel" "memberJ" "[I") (by decide +kernel)) (fun _ h9 => h9) rfl dX12_stands_114 ?_
              refine lv_iload hx hb dX12_stands_117 (lv_at hl 3 rfl) ?_
              obtain ⟨c119_3186, h⟩ := sm_ck h
              refine sm_iald hx hb hE hP (t12_36 ha0) c119_3186 dX12_stands_119 ?_
              refine lv_icmp_ne (tgt := 127) hx hb dX12_stands_120 (by decide) (fun c120_3187 => ?_) (fun c120_3187 => ?_)
              · rw [if_neg c120_3187] at h
                refine lv_iconst (v := (0 : Int32)) hx hb dX12_stands_127 (by decide) ?_
                refine lv_istore_n (lv' := [(3, .int (0 : Int32)), (0, .ref (adr a0)), (1, .int x1), (4, .int x4_66_3159)]) hx hb dX12_stands_128 rfl hl (by decide) rfl (fun ls hl => ?_)
                refine lv_iinc (v := (x4_66_3159 + (1 : Int32))) (lv' := [(4, .int (x4_66_3159 + (1 : Int32))), (3, .int (0 : Int32)), (0, .ref (adr a0)), (1, .int x1)]) hx hb dX12_stands_129 hl (k := 3) rfl (congrArg (fun z => x4_66_3159 + z) (by decide)) (by decide) rfl (fun ls hl => ?_)
                refine lv_goto (tgt := 66) hx hb dX12_stands_132 (by decide) ?_
                exact ih66_3161 ((0 : Int32), (x4_66_3159 + (1 : Int32))) _ _ _ h ⟨hP, hS, lv_sub hl [2, 3, 1, 0] rfl⟩
              · rw [if_pos c120_3187] at h
                refine lv_iconst (v := (1 : Int32)) hx hb dX12_stands_123 (by decide) ?_
                refine lv_goto (tgt := 128) hx hb dX12_stands_124 (by decide) ?_
                refine lv_istore_n (lv' := [(3, .int (1 : Int32)), (0, .ref (adr a0)), (1, .int x1), (4, .int x4_66_3159)]) hx hb dX12_stands_128 rfl hl (by decide) rfl (fun ls hl => ?_)
                refine lv_iinc (v := (x4_66_3159 + (1 : Int32))) (lv' := [(4, .int (x4_66_3159 + (1 : Int32))), (3, .int (1 : Int32)), (0, .ref (adr a0)), (1, .int x1)]) hx hb dX12_stands_129 hl (k := 3) rfl (congrArg (fun z => x4_66_3159 + z) (by decide)) (by decide) rfl (fun ls hl => ?_)
                refine lv_goto (tgt := 66) hx hb dX12_stands_132 (by decide) ?_
                exact ih66_3161 ((1 : Int32), (x4_66_3159 + (1 : Int32))) _ _ _ h ⟨hP, hS, lv_sub hl [2, 3, 1, 0] rfl⟩
      refine lv_icmp_ne (tgt := 61) hx hb dX12_stands_54 (by decide) (fun c54_3188 => ?_) (fun c54_3188 => ?_)
      · rw [if_neg c54_3188] at h
        refine lv_iconst (v := (0 : Int32)) hx hb dX12_stands_61 (by decide) ?_
        exact J62_3157 (0 : Int32) _ _ _ h ⟨hP, hS, lv_sub hl [1, 2] rfl⟩
      · rw [if_pos c54_3188] at h
        refine lv_iconst (v := (1 : Int32)) hx hb dX12_stands_57 (by decide) ?_
        refine lv_goto (tgt := 62) hx hb dX12_stands_58 (by decide) ?_
        exact J62_3157 (1 : Int32) _ _ _ h ⟨hP, hS, lv_sub hl [1, 2] rfl⟩
    · rw [if_neg c17_3148] at h
      refine lv_iload_n hx hb dX12_stands_20 rfl (lv_at hl 0 rfl) ?_
      cases h
      exact sm_iret hx hb hr hlocks hP hS dX12_stands_21
  · rw [if_pos c4_3144] at h
    refine lv_iconst (v := (-1 : Int32)) hx hb dX12_stands_7 (by decide) ?_
    cases h
    exact sm_iret hx hb hr hlocks hP hS dX12_stands_8
set_option maxHeartbeats 4000000 in
set_option maxRecDepth 100000 in
theorem k_X12_system (l : Launch) (D : va_G) (cA : Nat → ClassId) (adr : Nat → Nat) (hJ : smJ 2 adr) (a0 : Nat) (x1 : Int32) (x2 : Int32) (ha0 : smT 2 a0 12) (M : smM) (v1 : Int32) (M1 : smM) (h : m_X12_system a0 x1 x2 M = some (v1, M1)) : Met l yX12_system wsX12_system ({ frames := 1, cells := 0, slots := 0, locals := 25 }) (smPc D cA 2 adr M [.ref (adr a0), .int x1, .int x2]) (smQi D cA 2 adr M1 v1) 0 0 (smA 2 adr) := by
  refine Met.ofW (cc := cX12_system) (maxL := 4) (ret := (some .int)) (by decide) rfl ?_
  intro p e s m args below meth c s₁ B hml hv
  obtain ⟨rfl, hE, hP⟩ := hv
  have hx := B.exec
  have hb := B.bytes
  have hr := B.returns
  have hts := atoms_spec (ws := wsX12_system) B.pre
  have hown : s.vm.findClass RX12 = some m.cls := findClass_of_methodNamed B.named
  have hlocks := B.notSynchronized
  have hS : va_S (smA 2 adr) s.heap s.heap [] := va_S.rf
  have hP : smP D cA 2 adr M s.heap := hP
  have hl := lv_entry ([.ref (adr a0), .int x1, .int x2]) (n := 4) (Nat.le_of_ble_eq_true rfl)
  rw [lg_entry_eq]
  generalize (lg_sl ([.ref (adr a0), .int x1, .int x2]) ++ List.replicate (4 - (lg_sl ([.ref (adr a0), .int x1, .int x2])).length) Slot.unset).toArray = ls at hl ⊢
  have hl : lv_has ls 4 [(0, .ref (adr a0)), (1, .int x1), (2, .int x2)] := hl
  unfold m_X12_system at h
  have hin12 : ∀ w ∈ u_ws RX12 TX12 54, w ∈ wsX12_system := by decide +kernel
  refine lv_iload_n hx hb dX12_system_0 rfl (lv_at hl 1 rfl) ?_
  refine lv_i2l hx hb dX12_system_1 rfl ?_
  refine lv_lconst (v := (1 : Int64)) hx hb dX12_system_2 (by decide) ?_
  refine lv_ldc2 (v := (3 : Int64)) hx hb hown (hts (.constantLong RX12 166 (3)) (by decide +kernel)) dX12_system_3 ?_
  obtain ⟨v6_3189, hc6_3191, h⟩ := sm_bd h
  refine sm_ci (va_runS (As := [.long ((x1).toInt64), .long (1 : Int64), .long (3 : Int64)]) (rest := []) ⟨hx, hb, hml, hown, hts⟩ (k_X12_in l D cA adr hJ ((x1).toInt64) (1 : Int64) (3 : Int64)  M v6_3189 hc6_3191) (va_cwS 3 hts gX12_system_X12_in rfl rfl rfl (by decide +kernel) ⟨Nat.le_of_ble_eq_true rfl, Nat.le_of_ble_eq_true rfl⟩) ⟨smPc_bl, smPc_in [.long ((x1).toInt64), .long (1 : Int64), .long (3 : Int64)] hE hP⟩ rfl rfl hl.1 rfl (lv_room (Nat.le_of_ble_eq_true rfl)) dX12_system_6 ⟨Nat.zero_le _, Nat.zero_le _⟩) hS (fun H locs hP hS => ?_)
  refine lv_if_eq (tgt := 24) hx hb dX12_system_9 (by decide) (fun c9_3192 => ?_) (fun c9_3192 => ?_)
  · rw [if_pos c9_3192] at h
    refine lv_iconst (v := (-1 : Int32)) hx hb dX12_system_24 (by decide) ?_
    cases h
    exact sm_iret hx hb hr hlocks hP hS dX12_system_25
  · rw [if_neg c9_3192] at h
    refine lv_iload_n hx hb dX12_system_12 rfl (lv_at hl 2 rfl) ?_
    refine lv_i2l hx hb dX12_system_13 rfl ?_
    refine lv_lconst (v := (1 : Int64)) hx hb dX12_system_14 (by decide) ?_
    refine lv_ldc2 (v := (3 : Int64)) hx hb hown (hts (.constantLong RX12 166 (3)) (by decide +kernel)) dX12_system_15 ?_
    obtain ⟨v18_3193, hc18_3195, h⟩ := sm_bd h
    refine sm_ci (va_runS (As := [.long ((x2).toInt64), .long (1 : Int64), .long (3 : Int64)]) (rest := []) ⟨hx, hb, hml, hown, hts⟩ (k_X12_in l D cA adr hJ ((x2).toInt64) (1 : Int64) (3 : Int64)  M v18_3193 hc18_3195) (va_cwS 3 hts gX12_system_X12_in rfl rfl rfl (by decide +kernel) ⟨Nat.le_of_ble_eq_true rfl, Nat.le_of_ble_eq_true rfl⟩) ⟨smPc_bl, smPc_in [.long ((x2).toInt64), .long (1 : Int64), .long (3 : Int64)] hE hP⟩ rfl rfl hl.1 rfl (lv_room (Nat.le_of_ble_eq_true rfl)) dX12_system_18 ⟨Nat.zero_le _, Nat.zero_le _⟩) hS (fun H locs hP hS => ?_)
    refine lv_if_ne (tgt := 26) hx hb dX12_system_21 (by decide) (fun c21_3196 => ?_) (fun c21_3196 => ?_)
    · rw [if_neg c21_3196] at h
      refine lv_aload_n hx hb dX12_system_26 rfl (lv_at hl 0 rfl) ?_
      refine lv_iload_n hx hb dX12_system_27 rfl (lv_at hl 1 rfl) ?_
      refine sm_put (ci := 12) (C := RX12) (T := TX12) (N := 54) (ty := .int) hx hb hts hin12 tyX12 tyX12_ok nmX12 hown hE hJ hP hS ha0 rfl rfl 1 (by decide) (hts (.fieldLink RX12 13 "OrderMoverModel" "powerA" "I") (by decide +kernel)) (fun _ h9 => h9) rfl (by decide +kernel) rfl rfl (Nat.le_of_ble_eq_true rfl) rfl dX12_system_28 (fun H locs hP hS => ?_)
      obtain ⟨M28_3197, hM, h⟩ := sm_lt h
      rw [← hM] at hP; clear hM
      refine lv_aload_n hx hb dX12_system_31 rfl (lv_at hl 0 rfl) ?_
      refine lv_iload_n hx hb dX12_system_32 rfl (lv_at hl 2 rfl) ?_
      refine sm_put (ci := 12) (C := RX12) (T := TX12) (N := 54) (ty := .int) hx hb hts hin12 tyX12 tyX12_ok nmX12 hown hE hJ hP hS ha0 rfl rfl 2 (by decide) (hts (.fieldLink RX12 16 "OrderMoverModel" "powerB" "I") (by decide +kernel)) (fun _ h9 => h9) rfl (by decide +kernel) rfl rfl (Nat.le_of_ble_eq_true rfl) rfl dX12_system_33 (fun H locs hP hS => ?_)
      obtain ⟨M33_3198, hM, h⟩ := sm_lt h
      rw [← hM] at hP; clear hM
      refine lv_iconst (v := (0 : Int32)) hx hb dX12_system_36 (by decide) ?_
      refine lv_istore_n (lv' := [(3, .int (0 : Int32)), (0, .ref (adr a0)), (1, .int x1), (2, .int x2)]) hx hb dX12_system_37 rfl hl (by decide) rfl (fun ls hl => ?_)
      refine sm_lp (b := fun rc q => m_X12_system_b38 a0 rc q.1 q.2) (P := fun (q : Int32 × smM) H locs ls => smP D cA 2 adr q.2 H ∧ va_S (smA 2 adr) s.heap H locs ∧ lv_has ls 4 [(0, .ref (adr a0)), (3, .int q.1)]) (pc := 38) ?_ _ _ _ _ _ h ⟨hP, hS, lv_sub hl [1, 0] rfl⟩
      intro rc38_3201 ih38_3202 q H locs ls h hI
      obtain ⟨x3_38_3199, M38_3200⟩ := q
      obtain ⟨hP, hS, hl⟩ := hI
      have hP : smP D cA 2 adr M38_3200 H := hP
      have hl : lv_has ls 4 [(0, .ref (adr a0)), (3, .int x3_38_3199)] := hl
      have h : m_X12_system_b38 a0 rc38_3201 x3_38_3199 M38_3200 = some _ := h
      unfold m_X12_system_b38 at h
      refine lv_iload_n hx hb dX12_system_38 rfl (lv_at hl 1 rfl) ?_
      refine lv_bipush (v := (18 : Int32)) hx hb dX12_system_39 (by decide) ?_
      refine lv_icmp_ge (tgt := 57) hx hb dX12_system_41 (by decide) (fun c41_3203 => ?_) (fun c41_3203 => ?_)
      · rw [if_pos c41_3203] at h
        refine lv_aload_n hx hb dX12_system_57 rfl (lv_at hl 0 rfl) ?_
        obtain ⟨v58_3204, hc58_3206, h⟩ := sm_bd h
        refine sm_ci (va_runV (As := []) (rest := []) ⟨hx, hb, hml, hown, hts⟩ (k_X12_dimension l D cA adr hJ a0 ha0 M38_3200 v58_3204 hc58_3206) (cwV 0 hts gX12_system_X12_dimension rfl rfl rfl (by decide +kernel) ⟨Nat.le_of_ble_eq_true rfl, Nat.le_of_ble_eq_true rfl⟩) ⟨smPc_bl, smRv hE hP ha0 rfl (ci := 12) (q := (RX12, TX12, 54)) rfl, smPc_in [.ref (adr a0)] hE hP⟩ rfl rfl hl.1 rfl (lv_room (Nat.le_of_ble_eq_true rfl)) dX12_system_58 ⟨Nat.zero_le _, Nat.zero_le _⟩) hS (fun H locs hP hS => ?_)
        cases h
        exact sm_iret hx hb hr hlocks hP hS dX12_system_61
      · rw [if_neg c41_3203] at h
        refine lv_aload_n hx hb dX12_system_44 rfl (lv_at hl 0 rfl) ?_
        refine sm_get (ci := 12) (C := RX12) (T := TX12) (N := 54) (v := .ref (adr (a0 + 1))) hx hb hts hin12 hown hE hP ha0 rfl rfl 5 (by decide) (hts (.fieldLink RX12 25 "OrderMoverModel" "coefficients" "[I") (by decide +kernel)) (fun _ h9 => h9) rfl dX12_system_45 ?_
        refine lv_iload_n hx hb dX12_system_48 rfl (lv_at hl 1 rfl) ?_
        refine lv_iconst (v := (0 : Int32)) hx hb dX12_system_49 (by decide) ?_
        obtain ⟨c50_3207, h⟩ := sm_ck h
        refine sm_iast hx hb hE hJ hP hS (t12_5 ha0) c50_3207 dX12_system_50 (fun H locs hP hS => ?_)
        obtain ⟨M50_3208, hM, h⟩ := sm_lt h
        rw [← hM] at hP; clear hM
        refine lv_iinc (v := (x3_38_3199 + (1 : Int32))) (lv' := [(3, .int (x3_38_3199 + (1 : Int32))), (0, .ref (adr a0))]) hx hb dX12_system_51 hl (k := 1) rfl (congrArg (fun z => x3_38_3199 + z) (by decide)) (by decide) rfl (fun ls hl => ?_)
        refine lv_goto (tgt := 38) hx hb dX12_system_54 (by decide) ?_
        exact ih38_3202 ((x3_38_3199 + (1 : Int32)), M50_3208) _ _ _ h ⟨hP, hS, lv_sub hl [1, 0] rfl⟩
    · rw [if_pos c21_3196] at h
      refine lv_iconst (v := (-1 : Int32)) hx hb dX12_system_24 (by decide) ?_
      cases h
      exact sm_iret hx hb hr hlocks hP hS dX12_system_25
set_option maxHeartbeats 4000000 in
set_option maxRecDepth 100000 in
theorem k_X12_table (l : Launch) (D : va_G) (cA : Nat → ClassId) (adr : Nat → Nat) (hJ : smJ 2 adr) (a0 : Nat) (x1 : Int32) (x2 : Int32) (x3 : Int32) (x4 : Int32) (ha0 : smT 2 a0 12) (M : smM) (v1 : Int32) (M1 : smM) (h : m_X12_table a0 x1 x2 x3 x4 M = some (v1, M1)) : Met l yX12_table wsX12_table ({ frames := 6, cells := 0, slots := 0, locals := 139 }) (smPc D cA 2 adr M [.ref (adr a0), .int x1, .int x2, .int x3, .int x4]) (smQi D cA 2 adr M1 v1) 0 0 (smA 2 adr) := by
  refine Met.ofW (cc := cX12_table) (maxL := 6) (ret := (some .int)) (by decide) rfl ?_
  intro p e s m args below meth c s₁ B hml hv
  obtain ⟨rfl, hE, hP⟩ := hv
  have hx := B.exec
  have hb := B.bytes
  have hr := B.returns
  have hts := atoms_spec (ws := wsX12_table) B.pre
  have hown : s.vm.findClass RX12 = some m.cls := findClass_of_methodNamed B.named
  have hlocks := B.notSynchronized
  have hS : va_S (smA 2 adr) s.heap s.heap [] := va_S.rf
  have hP : smP D cA 2 adr M s.heap := hP
  have hl := lv_entry ([.ref (adr a0), .int x1, .int x2, .int x3, .int x4]) (n := 6) (Nat.le_of_ble_eq_true rfl)
  rw [lg_entry_eq]
  generalize (lg_sl ([.ref (adr a0), .int x1, .int x2, .int x3, .int x4]) ++ List.replicate (6 - (lg_sl ([.ref (adr a0), .int x1, .int x2, .int x3, .int x4])).length) Slot.unset).toArray = ls at hl ⊢
  have hl : lv_has ls 6 [(0, .ref (adr a0)), (1, .int x1), (2, .int x2), (3, .int x3), (4, .int x4)] := hl
  unfold m_X12_table at h
  have hin12 : ∀ w ∈ u_ws RX12 TX12 54, w ∈ wsX12_table := by decide +kernel
  refine lv_aload_n hx hb dX12_table_0 rfl (lv_at hl 0 rfl) ?_
  refine lv_iload_n hx hb dX12_table_1 rfl (lv_at hl 1 rfl) ?_
  obtain ⟨v2_3209, hc2_3211, h⟩ := sm_bd h
  refine sm_ci (va_runV (As := [.int x1]) (rest := []) ⟨hx, hb, hml, hown, hts⟩ (k_X12_isOrder l D cA adr hJ a0 x1 ha0 M v2_3209 hc2_3211) (cwV 1 hts gX12_table_X12_isOrder rfl rfl rfl (by decide +kernel) ⟨Nat.le_of_ble_eq_true rfl, Nat.le_of_ble_eq_true rfl⟩) ⟨smPc_bl, smRv hE hP ha0 rfl (ci := 12) (q := (RX12, TX12, 54)) rfl, smPc_in [.ref (adr a0), .int x1] hE hP⟩ rfl rfl hl.1 rfl (lv_room (Nat.le_of_ble_eq_true rfl)) dX12_table_2 ⟨Nat.zero_le _, Nat.zero_le _⟩) hS (fun H locs hP hS => ?_)
  refine lv_if_eq (tgt := 51) hx hb dX12_table_5 (by decide) (fun c5_3212 => ?_) (fun c5_3212 => ?_)
  · rw [if_pos c5_3212] at h
    refine lv_iconst (v := (-1 : Int32)) hx hb dX12_table_51 (by decide) ?_
    cases h
    exact sm_iret hx hb hr hlocks hP hS dX12_table_52
  · rw [if_neg c5_3212] at h
    refine lv_iload_n hx hb dX12_table_8 rfl (lv_at hl 2 rfl) ?_
    refine lv_i2l hx hb dX12_table_9 rfl ?_
    refine lv_lconst (v := (0 : Int64)) hx hb dX12_table_10 (by decide) ?_
    refine lv_lconst (v := (1 : Int64)) hx hb dX12_table_11 (by decide) ?_
    obtain ⟨v12_3213, hc12_3215, h⟩ := sm_bd h
    refine sm_ci (va_runS (As := [.long ((x2).toInt64), .long (0 : Int64), .long (1 : Int64)]) (rest := []) ⟨hx, hb, hml, hown, hts⟩ (k_X12_in l D cA adr hJ ((x2).toInt64) (0 : Int64) (1 : Int64)  M v12_3213 hc12_3215) (va_cwS 3 hts gX12_table_X12_in rfl rfl rfl (by decide +kernel) ⟨Nat.le_of_ble_eq_true rfl, Nat.le_of_ble_eq_true rfl⟩) ⟨smPc_bl, smPc_in [.long ((x2).toInt64), .long (0 : Int64), .long (1 : Int64)] hE hP⟩ rfl rfl hl.1 rfl (lv_room (Nat.le_of_ble_eq_true rfl)) dX12_table_12 ⟨Nat.zero_le _, Nat.zero_le _⟩) hS (fun H locs hP hS => ?_)
    refine lv_if_eq (tgt := 51) hx hb dX12_table_15 (by decide) (fun c15_3216 => ?_) (fun c15_3216 => ?_)
    · rw [if_pos c15_3216] at h
      refine lv_iconst (v := (-1 : Int32)) hx hb dX12_table_51 (by decide) ?_
      cases h
      exact sm_iret hx hb hr hlocks hP hS dX12_table_52
    · rw [if_neg c15_3216] at h
      refine lv_iload_n hx hb dX12_table_18 rfl (lv_at hl 3 rfl) ?_
      refine lv_i2l hx hb dX12_table_19 rfl ?_
      refine lv_lconst (v := (0 : Int64)) hx hb dX12_table_20 (by decide) ?_
      refine lv_aload_n hx hb dX12_table_21 rfl (lv_at hl 0 rfl) ?_
      obtain ⟨v22_3217, hc22_3219, h⟩ := sm_bd h
      refine sm_ci (va_runV (As := []) (rest := [.long (0 : Int64), .long ((x3).toInt64)]) ⟨hx, hb, hml, hown, hts⟩ (k_X12_dimension l D cA adr hJ a0 ha0 M v22_3217 hc22_3219) (cwV 0 hts gX12_table_X12_dimension rfl rfl rfl (by decide +kernel) ⟨Nat.le_of_ble_eq_true rfl, Nat.le_of_ble_eq_true rfl⟩) ⟨smPc_bl, smRv hE hP ha0 rfl (ci := 12) (q := (RX12, TX12, 54)) rfl, smPc_in [.ref (adr a0)] hE hP⟩ rfl rfl hl.1 rfl (lv_room (Nat.le_of_ble_eq_true rfl)) dX12_table_22 ⟨Nat.zero_le _, Nat.zero_le _⟩) hS (fun H locs hP hS => ?_)
      refine lv_iconst (v := (1 : Int32)) hx hb dX12_table_25 (by decide) ?_
      refine lv_isub hx hb dX12_table_26 ?_
      refine lv_i2l hx hb dX12_table_27 rfl ?_
      obtain ⟨v28_3220, hc28_3222, h⟩ := sm_bd h
      refine sm_ci (va_runS (As := [.long ((x3).toInt64), .long (0 : Int64), .long (((v22_3217 - (1 : Int32))).toInt64)]) (rest := []) ⟨hx, hb, hml, hown, hts⟩ (k_X12_in l D cA adr hJ ((x3).toInt64) (0 : Int64) (((v22_3217 - (1 : Int32))).toInt64)  M v28_3220 hc28_3222) (va_cwS 3 hts gX12_table_X12_in rfl rfl rfl (by decide +kernel) ⟨Nat.le_of_ble_eq_true rfl, Nat.le_of_ble_eq_true rfl⟩) ⟨smPc_bl, smPc_in [.long ((x3).toInt64), .long (0 : Int64), .long (((v22_3217 - (1 : Int32))).toInt64)] hE hP⟩ rfl rfl hl.1 rfl (lv_room (Nat.le_of_ble_eq_true rfl)) dX12_table_28 ⟨Nat.zero_le _, Nat.zero_le _⟩) hS (fun H locs hP hS => ?_)
      refine lv_if_eq (tgt := 51) hx hb dX12_table_31 (by decide) (fun c31_3223 => ?_) (fun c31_3223 => ?_)
      · rw [if_pos c31_3223] at h
        refine lv_iconst (v := (-1 : Int32)) hx hb dX12_table_51 (by decide) ?_
        cases h
        exact sm_iret hx hb hr hlocks hP hS dX12_table_52
      · rw [if_neg c31_3223] at h
        refine lv_iload hx hb dX12_table_34 (lv_at hl 4 rfl) ?_
        refine lv_i2l hx hb dX12_table_36 rfl ?_
        refine lv_lconst (v := (0 : Int64)) hx hb dX12_table_37 (by decide) ?_
        refine lv_aload_n hx hb dX12_table_38 rfl (lv_at hl 0 rfl) ?_
        obtain ⟨v39_3224, hc39_3226, h⟩ := sm_bd h
        refine sm_ci (va_runV (As := []) (rest := [.long (0 : Int64), .long ((x4).toInt64)]) ⟨hx, hb, hml, hown, hts⟩ (k_X12_dimension l D cA adr hJ a0 ha0 M v39_3224 hc39_3226) (cwV 0 hts gX12_table_X12_dimension rfl rfl rfl (by decide +kernel) ⟨Nat.le_of_ble_eq_true rfl, Nat.le_of_ble_eq_true rfl⟩) ⟨smPc_bl, smRv hE hP ha0 rfl (ci := 12) (q := (RX12, TX12, 54)) rfl, smPc_in [.ref (adr a0)] hE hP⟩ rfl rfl hl.1 rfl (lv_room (Nat.le_of_ble_eq_true rfl)) dX12_table_39 ⟨Nat.zero_le _, Nat.zero_le _⟩) hS (fun H locs hP hS => ?_)
        refine lv_iconst (v := (1 : Int32)) hx hb dX12_table_42 (by decide) ?_
        refine lv_isub hx hb dX12_table_43 ?_
        refine lv_i2l hx hb dX12_table_44 rfl ?_
        obtain ⟨v45_3227, hc45_3229, h⟩ := sm_bd h
        refine sm_ci (va_runS (As := [.long ((x4).toInt64), .long (0 : Int64), .long (((v39_3224 - (1 : Int32))).toInt64)]) (rest := []) ⟨hx, hb, hml, hown, hts⟩ (k_X12_in l D cA adr hJ ((x4).toInt64) (0 : Int64) (((v39_3224 - (1 : Int32))).toInt64)  M v45_3227 hc45_3229) (va_cwS 3 hts gX12_table_X12_in rfl rfl rfl (by decide +kernel) ⟨Nat.le_of_ble_eq_true rfl, Nat.le_of_ble_eq_true rfl⟩) ⟨smPc_bl, smPc_in [.long ((x4).toInt64), .long (0 : Int64), .long (((v39_3224 - (1 : Int32))).toInt64)] hE hP⟩ rfl rfl hl.1 rfl (lv_room (Nat.le_of_ble_eq_true rfl)) dX12_table_45 ⟨Nat.zero_le _, Nat.zero_le _⟩) hS (fun H locs hP hS => ?_)
        refine lv_if_ne (tgt := 53) hx hb dX12_table_48 (by decide) (fun c48_3230 => ?_) (fun c48_3230 => ?_)
        · rw [if_neg c48_3230] at h
          refine lv_aload_n hx hb dX12_table_53 rfl (lv_at hl 0 rfl) ?_
          refine lv_iload_n hx hb dX12_table_54 rfl (lv_at hl 1 rfl) ?_
          obtain ⟨M55_3232, hc55_3233, h⟩ := sm_bd h
          refine sm_cv (va_runV (As := [.int x1]) (rest := []) ⟨hx, hb, hml, hown, hts⟩ (k_X12_walksNow l D cA adr hJ a0 x1 ha0 M M55_3232 hc55_3233) (cwV 1 hts gX12_table_X12_walksNow rfl rfl rfl (by decide +kernel) ⟨Nat.le_of_ble_eq_true rfl, Nat.le_of_ble_eq_true rfl⟩) ⟨smPc_bl, smRv hE hP ha0 rfl (ci := 12) (q := (RX12, TX12, 54)) rfl, smPc_in [.ref (adr a0), .int x1] hE hP⟩ rfl rfl hl.1 rfl (lv_room (Nat.le_of_ble_eq_true rfl)) dX12_table_55 ⟨Nat.zero_le _, Nat.zero_le _⟩) hS (fun H locs hP hS => ?_)
          refine lv_aload_n hx hb dX12_table_58 rfl (lv_at hl 0 rfl) ?_
          refine lv_aload_n hx hb dX12_table_59 rfl (lv_at hl 0 rfl) ?_
          refine sm_get (ci := 12) (C := RX12) (T := TX12) (N := 54) (v := .ref (adr (a0 + 22))) hx hb hts hin12 hown hE hP ha0 rfl rfl 30 (by decide) (hts (.fieldLink RX12 90 "OrderMoverModel" "stairI" "[I") (by decide +kernel)) (fun _ h9 => h9) rfl dX12_table_60 ?_
          refine lv_iload_n hx hb dX12_table_63 rfl (lv_at hl 3 rfl) ?_
          obtain ⟨c64_3234, h⟩ := sm_ck h
          refine sm_iald hx hb hE hP (t12_30 ha0) c64_3234 dX12_table_64 ?_
          refine lv_iload_n hx hb dX12_table_65 rfl (lv_at hl 2 rfl) ?_
          refine sm_jn (x := (v1, M1)) (T := fun (q : Int32) => m_X12_table_j74 a0 x2 x3 x4 (M55_3232 (a0 + 22) (x3).toNatClampNeg) a0 M55_3232 q) (P := fun (q : Int32) H locs ls => smP D cA 2 adr M55_3232 H ∧ va_S (smA 2 adr) s.heap H locs ∧ lv_has ls 6 [(0, .ref (adr a0)), (2, .int x2), (3, .int x3), (4, .int x4)]) (st := fun (q : Int32) => [.int q, .int (M55_3232 (a0 + 22) (x3).toNatClampNeg), .ref (adr a0)]) (pc := 74) ?_ (fun J74_3236 => ?_)
          · intro q H locs ls h hI
            obtain ⟨s0_74_3235, hq⟩ : ∃ y, y = q := ⟨_, rfl⟩; subst hq
            obtain ⟨hP, hS, hl⟩ := hI
            have hP : smP D cA 2 adr M55_3232 H := hP
            have hl : lv_has ls 6 [(0, .ref (adr a0)), (2, .int x2), (3, .int x3), (4, .int x4)] := hl
            have h : m_X12_table_j74 a0 x2 x3 x4 (M55_3232 (a0 + 22) (x3).toNatClampNeg) a0 M55_3232 s0_74_3235 = some _ := h
            unfold m_X12_table_j74 at h
            refine W.eq (g2 := F0 m 74 ls [.int s0_74_3235, .int (M55_3232 (a0 + 22) (x3).toNatClampNeg), .ref (adr a0)]) rfl ?_
            refine lv_iadd hx hb dX12_table_74 ?_
            refine lv_aload_n hx hb dX12_table_75 rfl (lv_at hl 0 rfl) ?_
            refine sm_get (ci := 12) (C := RX12) (T := TX12) (N := 54) (v := .ref (adr (a0 + 23))) hx hb hts hin12 hown hE hP ha0 rfl rfl 31 (by decide) (hts (.fieldLink RX12 93 "OrderMoverModel" "stairJ" "[I") (by decide +kernel)) (fun _ h9 => h9) rfl dX12_table_76 ?_
            refine lv_iload_n hx hb dX12_table_79 rfl (lv_at hl 2 rfl) ?_
            obtain ⟨c80_3237, h⟩ := sm_ck h
            refine sm_iald hx hb hE hP (t12_31 ha0) c80_3237 dX12_table_80 ?_
            refine lv_iload_n hx hb dX12_table_81 rfl (lv_at hl 1 rfl) ?_
            refine lv_iadd hx hb dX12_table_82 ?_
            obtain ⟨M83_3239, hc83_3240, h⟩ := sm_bd h
            refine sm_cv (va_runV (As := [.int ((M55_3232 (a0 + 22) (x3).toNatClampNeg) + s0_74_3235), .int ((M55_3232 (a0 + 23) (x3).toNatClampNeg) + x2)]) (rest := []) ⟨hx, hb, hml, hown, hts⟩ (k_X12_formOf l D cA adr hJ a0 ((M55_3232 (a0 + 22) (x3).toNatClampNeg) + s0_74_3235) ((M55_3232 (a0 + 23) (x3).toNatClampNeg) + x2) ha0 M55_3232 M83_3239 hc83_3240) (cwV 2 hts gX12_table_X12_formOf rfl rfl rfl (by decide +kernel) ⟨Nat.le_of_ble_eq_true rfl, Nat.le_of_ble_eq_true rfl⟩) ⟨smPc_bl, smRv hE hP ha0 rfl (ci := 12) (q := (RX12, TX12, 54)) rfl, smPc_in [.ref (adr a0), .int ((M55_3232 (a0 + 22) (x3).toNatClampNeg) + s0_74_3235), .int ((M55_3232 (a0 + 23) (x3).toNatClampNeg) + x2)] hE hP⟩ rfl rfl hl.1 rfl (lv_room (Nat.le_of_ble_eq_true rfl)) dX12_table_83 ⟨Nat.zero_le _, Nat.zero_le _⟩) hS (fun H locs hP hS => ?_)
            refine lv_aload_n hx hb dX12_table_86 rfl (lv_at hl 0 rfl) ?_
            obtain ⟨v87_3241, M87_3242, hc87_3243, h⟩ := sm_bd2 h
            refine sm_ci (va_runV (As := []) (rest := []) ⟨hx, hb, hml, hown, hts⟩ (k_X12_isLeft l D cA adr hJ a0 ha0 M83_3239 v87_3241 M87_3242 hc87_3243) (cwV 0 hts gX12_table_X12_isLeft rfl rfl rfl (by decide +kernel) ⟨Nat.le_of_ble_eq_true rfl, Nat.le_of_ble_eq_true rfl⟩) ⟨smPc_bl, smRv hE hP ha0 rfl (ci := 12) (q := (RX12, TX12, 54)) rfl, smPc_in [.ref (adr a0)] hE hP⟩ rfl rfl hl.1 rfl (lv_room (Nat.le_of_ble_eq_true rfl)) dX12_table_87 ⟨Nat.zero_le _, Nat.zero_le _⟩) hS (fun H locs hP hS => ?_)
            refine lv_istore (lv' := [(5, .int v87_3241), (0, .ref (adr a0)), (2, .int x2), (3, .int x3), (4, .int x4)]) hx hb dX12_table_90 hl (by decide) rfl (fun ls hl => ?_)
            refine lv_iload hx hb dX12_table_92 (lv_at hl 0 rfl) ?_
            refine lv_bipush (v := (-4 : Int32)) hx hb dX12_table_94 (by decide) ?_
            refine lv_icmp_ne (tgt := 115) hx hb dX12_table_96 (by decide) (fun c96_3244 => ?_) (fun c96_3244 => ?_)
            · rw [if_neg c96_3244] at h
              refine lv_iconst (v := (-1 : Int32)) hx hb dX12_table_115 (by decide) ?_
              cases h
              exact sm_iret hx hb hr hlocks hP hS dX12_table_116
            · rw [if_pos c96_3244] at h
              refine lv_aload_n hx hb dX12_table_99 rfl (lv_at hl 1 rfl) ?_
              refine lv_aload_n hx hb dX12_table_100 rfl (lv_at hl 1 rfl) ?_
              refine sm_get (ci := 12) (C := RX12) (T := TX12) (N := 54) (v := .ref (adr (a0 + 31))) hx hb hts hin12 hown hE hP ha0 rfl rfl 41 (by decide) (hts (.fieldLink RX12 117 "OrderMoverModel" "made" "[I") (by decide +kernel)) (fun _ h9 => h9) rfl dX12_table_101 ?_
              refine lv_iload hx hb dX12_table_104 (lv_at hl 4 rfl) ?_
              obtain ⟨c106_3245, h⟩ := sm_ck h
              refine sm_iald hx hb hE hP (t12_41 ha0) c106_3245 dX12_table_106 ?_
              refine lv_ineg hx hb dX12_table_107 ?_
              refine lv_i2l hx hb dX12_table_108 rfl ?_
              obtain ⟨v109_3246, hc109_3248, h⟩ := sm_bd h
              refine sm_ci (va_runV (As := [.long (((-(M87_3242 (a0 + 31) (x4).toNatClampNeg))).toInt64)]) (rest := []) ⟨hx, hb, hml, hown, hts⟩ (k_X12_mod l D cA adr hJ a0 (((-(M87_3242 (a0 + 31) (x4).toNatClampNeg))).toInt64) ha0 M87_3242 v109_3246 hc109_3248) (cwV 1 hts gX12_table_X12_mod rfl rfl rfl (by decide +kernel) ⟨Nat.le_of_ble_eq_true rfl, Nat.le_of_ble_eq_true rfl⟩) ⟨smPc_bl, smRv hE hP ha0 rfl (ci := 12) (q := (RX12, TX12, 54)) rfl, smPc_in [.ref (adr a0), .long (((-(M87_3242 (a0 + 31) (x4).toNatClampNeg))).toInt64)] hE hP⟩ rfl rfl hl.1 rfl (lv_room (Nat.le_of_ble_eq_true rfl)) dX12_table_109 ⟨Nat.zero_le _, Nat.zero_le _⟩) hS (fun H locs hP hS => ?_)
              refine lv_goto (tgt := 116) hx hb dX12_table_112 (by decide) ?_
              cases h
              exact sm_iret hx hb hr hlocks hP hS dX12_table_116
          refine lv_if_ne (tgt := 73) hx hb dX12_table_66 (by decide) (fun c66_3249 => ?_) (fun c66_3249 => ?_)
          · rw [if_neg c66_3249] at h
            refine lv_iconst (v := (0 : Int32)) hx hb dX12_table_73 (by decide) ?_
            exact J74_3236 (0 : Int32) _ _ _ h ⟨hP, hS, lv_sub hl [0, 2, 3, 4] rfl⟩
          · rw [if_pos c66_3249] at h
            refine lv_iconst (v := (1 : Int32)) hx hb dX12_table_69 (by decide) ?_
            refine lv_goto (tgt := 74) hx hb dX12_table_70 (by decide) ?_
            exact J74_3236 (1 : Int32) _ _ _ h ⟨hP, hS, lv_sub hl [0, 2, 3, 4] rfl⟩
        · rw [if_pos c48_3230] at h
          refine lv_iconst (v := (-1 : Int32)) hx hb dX12_table_51 (by decide) ?_
          cases h
          exact sm_iret hx hb hr hlocks hP hS dX12_table_52
set_option maxHeartbeats 4000000 in
set_option maxRecDepth 100000 in
theorem k_X12_tail (l : Launch) (D : va_G) (cA : Nat → ClassId) (adr : Nat → Nat) (hJ : smJ 2 adr) (a0 : Nat) (x1 : Int32) (x2 : Int32) (x3 : Int32) (ha0 : smT 2 a0 12) (M : smM) (v1 : Int32) (M1 : smM) (h : m_X12_tail a0 x1 x2 x3 M = some (v1, M1)) : Met l yX12_tail wsX12_tail ({ frames := 6, cells := 0, slots := 0, locals := 139 }) (smPc D cA 2 adr M [.ref (adr a0), .int x1, .int x2, .int x3]) (smQi D cA 2 adr M1 v1) 0 0 (smA 2 adr) := by
  refine Met.ofW (cc := cX12_tail) (maxL := 4) (ret := (some .int)) (by decide) rfl ?_
  intro p e s m args below meth c s₁ B hml hv
  obtain ⟨rfl, hE, hP⟩ := hv
  have hx := B.exec
  have hb := B.bytes
  have hr := B.returns
  have hts := atoms_spec (ws := wsX12_tail) B.pre
  have hown : s.vm.findClass RX12 = some m.cls := findClass_of_methodNamed B.named
  have hlocks := B.notSynchronized
  have hS : va_S (smA 2 adr) s.heap s.heap [] := va_S.rf
  have hP : smP D cA 2 adr M s.heap := hP
  have hl := lv_entry ([.ref (adr a0), .int x1, .int x2, .int x3]) (n := 4) (Nat.le_of_ble_eq_true rfl)
  rw [lg_entry_eq]
  generalize (lg_sl ([.ref (adr a0), .int x1, .int x2, .int x3]) ++ List.replicate (4 - (lg_sl ([.ref (adr a0), .int x1, .int x2, .int x3])).length) Slot.unset).toArray = ls at hl ⊢
  have hl : lv_has ls 4 [(0, .ref (adr a0)), (1, .int x1), (2, .int x2), (3, .int x3)] := hl
  unfold m_X12_tail at h
  have hin12 : ∀ w ∈ u_ws RX12 TX12 54, w ∈ wsX12_tail := by decide +kernel
  refine lv_aload_n hx hb dX12_tail_0 rfl (lv_at hl 0 rfl) ?_
  refine lv_iload_n hx hb dX12_tail_1 rfl (lv_at hl 1 rfl) ?_
  obtain ⟨v2_3250, hc2_3252, h⟩ := sm_bd h
  refine sm_ci (va_runV (As := [.int x1]) (rest := []) ⟨hx, hb, hml, hown, hts⟩ (k_X12_isOrder l D cA adr hJ a0 x1 ha0 M v2_3250 hc2_3252) (cwV 1 hts gX12_tail_X12_isOrder rfl rfl rfl (by decide +kernel) ⟨Nat.le_of_ble_eq_true rfl, Nat.le_of_ble_eq_true rfl⟩) ⟨smPc_bl, smRv hE hP ha0 rfl (ci := 12) (q := (RX12, TX12, 54)) rfl, smPc_in [.ref (adr a0), .int x1] hE hP⟩ rfl rfl hl.1 rfl (lv_room (Nat.le_of_ble_eq_true rfl)) dX12_tail_2 ⟨Nat.zero_le _, Nat.zero_le _⟩) hS (fun H locs hP hS => ?_)
  refine lv_if_eq (tgt := 24) hx hb dX12_tail_5 (by decide) (fun c5_3253 => ?_) (fun c5_3253 => ?_)
  · rw [if_pos c5_3253] at h
    refine lv_iconst (v := (-1 : Int32)) hx hb dX12_tail_24 (by decide) ?_
    cases h
    exact sm_iret hx hb hr hlocks hP hS dX12_tail_25
  · rw [if_neg c5_3253] at h
    refine lv_iload_n hx hb dX12_tail_8 rfl (lv_at hl 3 rfl) ?_
    refine lv_i2l hx hb dX12_tail_9 rfl ?_
    refine lv_lconst (v := (0 : Int64)) hx hb dX12_tail_10 (by decide) ?_
    refine lv_aload_n hx hb dX12_tail_11 rfl (lv_at hl 0 rfl) ?_
    obtain ⟨v12_3254, hc12_3256, h⟩ := sm_bd h
    refine sm_ci (va_runV (As := []) (rest := [.long (0 : Int64), .long ((x3).toInt64)]) ⟨hx, hb, hml, hown, hts⟩ (k_X12_dimension l D cA adr hJ a0 ha0 M v12_3254 hc12_3256) (cwV 0 hts gX12_tail_X12_dimension rfl rfl rfl (by decide +kernel) ⟨Nat.le_of_ble_eq_true rfl, Nat.le_of_ble_eq_true rfl⟩) ⟨smPc_bl, smRv hE hP ha0 rfl (ci := 12) (q := (RX12, TX12, 54)) rfl, smPc_in [.ref (adr a0)] hE hP⟩ rfl rfl hl.1 rfl (lv_room (Nat.le_of_ble_eq_true rfl)) dX12_tail_12 ⟨Nat.zero_le _, Nat.zero_le _⟩) hS (fun H locs hP hS => ?_)
    refine lv_iconst (v := (1 : Int32)) hx hb dX12_tail_15 (by decide) ?_
    refine lv_isub hx hb dX12_tail_16 ?_
    refine lv_i2l hx hb dX12_tail_17 rfl ?_
    obtain ⟨v18_3257, hc18_3259, h⟩ := sm_bd h
    refine sm_ci (va_runS (As := [.long ((x3).toInt64), .long (0 : Int64), .long (((v12_3254 - (1 : Int32))).toInt64)]) (rest := []) ⟨hx, hb, hml, hown, hts⟩ (k_X12_in l D cA adr hJ ((x3).toInt64) (0 : Int64) (((v12_3254 - (1 : Int32))).toInt64)  M v18_3257 hc18_3259) (va_cwS 3 hts gX12_tail_X12_in rfl rfl rfl (by decide +kernel) ⟨Nat.le_of_ble_eq_true rfl, Nat.le_of_ble_eq_true rfl⟩) ⟨smPc_bl, smPc_in [.long ((x3).toInt64), .long (0 : Int64), .long (((v12_3254 - (1 : Int32))).toInt64)] hE hP⟩ rfl rfl hl.1 rfl (lv_room (Nat.le_of_ble_eq_true rfl)) dX12_tail_18 ⟨Nat.zero_le _, Nat.zero_le _⟩) hS (fun H locs hP hS => ?_)
    refine lv_if_ne (tgt := 26) hx hb dX12_tail_21 (by decide) (fun c21_3260 => ?_) (fun c21_3260 => ?_)
    · rw [if_neg c21_3260] at h
      refine lv_aload_n hx hb dX12_tail_26 rfl (lv_at hl 0 rfl) ?_
      refine lv_iload_n hx hb dX12_tail_27 rfl (lv_at hl 1 rfl) ?_
      obtain ⟨M28_3262, hc28_3263, h⟩ := sm_bd h
      refine sm_cv (va_runV (As := [.int x1]) (rest := []) ⟨hx, hb, hml, hown, hts⟩ (k_X12_walksNow l D cA adr hJ a0 x1 ha0 M M28_3262 hc28_3263) (cwV 1 hts gX12_tail_X12_walksNow rfl rfl rfl (by decide +kernel) ⟨Nat.le_of_ble_eq_true rfl, Nat.le_of_ble_eq_true rfl⟩) ⟨smPc_bl, smRv hE hP ha0 rfl (ci := 12) (q := (RX12, TX12, 54)) rfl, smPc_in [.ref (adr a0), .int x1] hE hP⟩ rfl rfl hl.1 rfl (lv_room (Nat.le_of_ble_eq_true rfl)) dX12_tail_28 ⟨Nat.zero_le _, Nat.zero_le _⟩) hS (fun H locs hP hS => ?_)
      refine lv_iload_n hx hb dX12_tail_31 rfl (lv_at hl 2 rfl) ?_
      refine lv_i2l hx hb dX12_tail_32 rfl ?_
      refine lv_lconst (v := (0 : Int64)) hx hb dX12_tail_33 (by decide) ?_
      refine lv_aload_n hx hb dX12_tail_34 rfl (lv_at hl 0 rfl) ?_
      refine sm_get (ci := 12) (C := RX12) (T := TX12) (N := 54) (v := .int (M28_3262 a0 34)) hx hb hts hin12 hown hE hP ha0 rfl rfl 34 (by decide) (hts (.fieldLink RX12 230 "OrderMoverModel" "members" "I") (by decide +kernel)) (fun _ h9 => h9) rfl dX12_tail_35 ?_
      refine lv_iconst (v := (1 : Int32)) hx hb dX12_tail_38 (by decide) ?_
      refine lv_isub hx hb dX12_tail_39 ?_
      refine lv_i2l hx hb dX12_tail_40 rfl ?_
      obtain ⟨v41_3264, hc41_3266, h⟩ := sm_bd h
      refine sm_ci (va_runS (As := [.long ((x2).toInt64), .long (0 : Int64), .long ((((M28_3262 a0 34) - (1 : Int32))).toInt64)]) (rest := []) ⟨hx, hb, hml, hown, hts⟩ (k_X12_in l D cA adr hJ ((x2).toInt64) (0 : Int64) ((((M28_3262 a0 34) - (1 : Int32))).toInt64)  M28_3262 v41_3264 hc41_3266) (va_cwS 3 hts gX12_tail_X12_in rfl rfl rfl (by decide +kernel) ⟨Nat.le_of_ble_eq_true rfl, Nat.le_of_ble_eq_true rfl⟩) ⟨smPc_bl, smPc_in [.long ((x2).toInt64), .long (0 : Int64), .long ((((M28_3262 a0 34) - (1 : Int32))).toInt64)] hE hP⟩ rfl rfl hl.1 rfl (lv_room (Nat.le_of_ble_eq_true rfl)) dX12_tail_41 ⟨Nat.zero_le _, Nat.zero_le _⟩) hS (fun H locs hP hS => ?_)
      refine lv_if_eq (tgt := 61) hx hb dX12_tail_44 (by decide) (fun c44_3267 => ?_) (fun c44_3267 => ?_)
      · rw [if_pos c44_3267] at h
        refine lv_iconst (v := (-1 : Int32)) hx hb dX12_tail_61 (by decide) ?_
        cases h
        exact sm_iret hx hb hr hlocks hP hS dX12_tail_62
      · rw [if_neg c44_3267] at h
        refine lv_aload_n hx hb dX12_tail_47 rfl (lv_at hl 0 rfl) ?_
        refine sm_get (ci := 12) (C := RX12) (T := TX12) (N := 54) (v := .ref (adr (a0 + 28))) hx hb hts hin12 hown hE hP ha0 rfl rfl 37 (by decide) (hts (.fieldLink RX12 108 "OrderMoverModel" "tails" "[I") (by decide +kernel)) (fun _ h9 => h9) rfl dX12_tail_48 ?_
        refine lv_bipush (v := (9 : Int32)) hx hb dX12_tail_51 (by decide) ?_
        refine lv_iload_n hx hb dX12_tail_53 rfl (lv_at hl 2 rfl) ?_
        refine lv_imul hx hb dX12_tail_54 ?_
        refine lv_iload_n hx hb dX12_tail_55 rfl (lv_at hl 3 rfl) ?_
        refine lv_iadd hx hb dX12_tail_56 ?_
        obtain ⟨c57_3268, h⟩ := sm_ck h
        refine sm_iald hx hb hE hP (t12_37 ha0) c57_3268 dX12_tail_57 ?_
        refine lv_goto (tgt := 62) hx hb dX12_tail_58 (by decide) ?_
        cases h
        exact sm_iret hx hb hr hlocks hP hS dX12_tail_62
    · rw [if_pos c21_3260] at h
      refine lv_iconst (v := (-1 : Int32)) hx hb dX12_tail_24 (by decide) ?_
      cases h
      exact sm_iret hx hb hr hlocks hP hS dX12_tail_25
set_option maxHeartbeats 4000000 in
set_option maxRecDepth 100000 in
theorem k_X12_term (l : Launch) (D : va_G) (cA : Nat → ClassId) (adr : Nat → Nat) (hJ : smJ 2 adr) (a0 : Nat) (x1 : Int32) (x2 : Int32) (x3 : Int32) (ha0 : smT 2 a0 12) (M : smM) (v1 : Int32) (h : m_X12_term a0 x1 x2 x3 M = some v1) : Met l yX12_term wsX12_term ({ frames := 2, cells := 0, slots := 0, locals := 45 }) (smPc D cA 2 adr M [.ref (adr a0), .int x1, .int x2, .int x3]) (smQi D cA 2 adr M v1) 0 0 (smA 2 adr) := by
  refine Met.ofW (cc := cX12_term) (maxL := 6) (ret := (some .int)) (by decide) rfl ?_
  intro p e s m args below meth c s₁ B hml hv
  obtain ⟨rfl, hE, hP⟩ := hv
  have hx := B.exec
  have hb := B.bytes
  have hr := B.returns
  have hts := atoms_spec (ws := wsX12_term) B.pre
  have hown : s.vm.findClass RX12 = some m.cls := findClass_of_methodNamed B.named
  have hlocks := B.notSynchronized
  have hS : va_S (smA 2 adr) s.heap s.heap [] := va_S.rf
  have hP : smP D cA 2 adr M s.heap := hP
  have hl := lv_entry ([.ref (adr a0), .int x1, .int x2, .int x3]) (n := 6) (Nat.le_of_ble_eq_true rfl)
  rw [lg_entry_eq]
  generalize (lg_sl ([.ref (adr a0), .int x1, .int x2, .int x3]) ++ List.replicate (6 - (lg_sl ([.ref (adr a0), .int x1, .int x2, .int x3])).length) Slot.unset).toArray = ls at hl ⊢
  have hl : lv_has ls 6 [(0, .ref (adr a0)), (1, .int x1), (2, .int x2), (3, .int x3)] := hl
  unfold m_X12_term at h
  have hin12 : ∀ w ∈ u_ws RX12 TX12 54, w ∈ wsX12_term := by decide +kernel
  refine lv_iload_n hx hb dX12_term_0 rfl (lv_at hl 1 rfl) ?_
  obtain ⟨v1_3269, hc1_3271, h⟩ := sm_bd h
  refine sm_ci (va_runS (As := [.int x1]) (rest := []) ⟨hx, hb, hml, hown, hts⟩ (k_X12_isSlot l D cA adr hJ x1  M v1_3269 hc1_3271) (va_cwS 1 hts gX12_term_X12_isSlot rfl rfl rfl (by decide +kernel) ⟨Nat.le_of_ble_eq_true rfl, Nat.le_of_ble_eq_true rfl⟩) ⟨smPc_bl, smPc_in [.int x1] hE hP⟩ rfl rfl hl.1 rfl (lv_room (Nat.le_of_ble_eq_true rfl)) dX12_term_1 ⟨Nat.zero_le _, Nat.zero_le _⟩) hS (fun H locs hP hS => ?_)
  refine lv_if_eq (tgt := 23) hx hb dX12_term_4 (by decide) (fun c4_3272 => ?_) (fun c4_3272 => ?_)
  · rw [if_pos c4_3272] at h
    refine lv_iconst (v := (-1 : Int32)) hx hb dX12_term_23 (by decide) ?_
    cases h
    exact sm_iret hx hb hr hlocks hP hS dX12_term_24
  · rw [if_neg c4_3272] at h
    refine lv_iload_n hx hb dX12_term_7 rfl (lv_at hl 2 rfl) ?_
    refine lv_if_lt (tgt := 23) hx hb dX12_term_8 (by decide) (fun c8_3273 => ?_) (fun c8_3273 => ?_)
    · rw [if_pos c8_3273] at h
      refine lv_iconst (v := (-1 : Int32)) hx hb dX12_term_23 (by decide) ?_
      cases h
      exact sm_iret hx hb hr hlocks hP hS dX12_term_24
    · rw [if_neg c8_3273] at h
      refine lv_iload_n hx hb dX12_term_11 rfl (lv_at hl 3 rfl) ?_
      refine lv_i2l hx hb dX12_term_12 rfl ?_
      refine lv_lconst (v := (0 : Int64)) hx hb dX12_term_13 (by decide) ?_
      refine lv_ldc2 (v := (2 : Int64)) hx hb hown (hts (.constantLong RX12 151 (2)) (by decide +kernel)) dX12_term_14 ?_
      obtain ⟨v17_3274, hc17_3276, h⟩ := sm_bd h
      refine sm_ci (va_runS (As := [.long ((x3).toInt64), .long (0 : Int64), .long (2 : Int64)]) (rest := []) ⟨hx, hb, hml, hown, hts⟩ (k_X12_in l D cA adr hJ ((x3).toInt64) (0 : Int64) (2 : Int64)  M v17_3274 hc17_3276) (va_cwS 3 hts gX12_term_X12_in rfl rfl rfl (by decide +kernel) ⟨Nat.le_of_ble_eq_true rfl, Nat.le_of_ble_eq_true rfl⟩) ⟨smPc_bl, smPc_in [.long ((x3).toInt64), .long (0 : Int64), .long (2 : Int64)] hE hP⟩ rfl rfl hl.1 rfl (lv_room (Nat.le_of_ble_eq_true rfl)) dX12_term_17 ⟨Nat.zero_le _, Nat.zero_le _⟩) hS (fun H locs hP hS => ?_)
      refine lv_if_ne (tgt := 25) hx hb dX12_term_20 (by decide) (fun c20_3277 => ?_) (fun c20_3277 => ?_)
      · rw [if_neg c20_3277] at h
        refine lv_aload_n hx hb dX12_term_25 rfl (lv_at hl 0 rfl) ?_
        refine lv_iload_n hx hb dX12_term_26 rfl (lv_at hl 1 rfl) ?_
        refine lv_iconst (v := (1 : Int32)) hx hb dX12_term_27 (by decide) ?_
        obtain ⟨v28_3278, hc28_3280, h⟩ := sm_bd h
        refine sm_ci (va_runV (As := [.int x1, .int (1 : Int32)]) (rest := []) ⟨hx, hb, hml, hown, hts⟩ (k_X12_lacks l D cA adr hJ a0 x1 (1 : Int32) ha0 M v28_3278 hc28_3280) (cwV 2 hts gX12_term_X12_lacks rfl rfl rfl (by decide +kernel) ⟨Nat.le_of_ble_eq_true rfl, Nat.le_of_ble_eq_true rfl⟩) ⟨smPc_bl, smRv hE hP ha0 rfl (ci := 12) (q := (RX12, TX12, 54)) rfl, smPc_in [.ref (adr a0), .int x1, .int (1 : Int32)] hE hP⟩ rfl rfl hl.1 rfl (lv_room (Nat.le_of_ble_eq_true rfl)) dX12_term_28 ⟨Nat.zero_le _, Nat.zero_le _⟩) hS (fun H locs hP hS => ?_)
        refine lv_istore (lv' := [(4, .int v28_3278), (0, .ref (adr a0)), (1, .int x1), (2, .int x2), (3, .int x3)]) hx hb dX12_term_31 hl (by decide) rfl (fun ls hl => ?_)
        refine lv_iload hx hb dX12_term_33 (lv_at hl 0 rfl) ?_
        refine lv_if_ge (tgt := 41) hx hb dX12_term_35 (by decide) (fun c35_3281 => ?_) (fun c35_3281 => ?_)
        · rw [if_pos c35_3281] at h
          refine lv_bipush (v := (8 : Int32)) hx hb dX12_term_41 (by decide) ?_
          refine lv_iload_n hx hb dX12_term_43 rfl (lv_at hl 2 rfl) ?_
          refine lv_imul hx hb dX12_term_44 ?_
          refine lv_iload_n hx hb dX12_term_45 rfl (lv_at hl 3 rfl) ?_
          refine lv_iadd hx hb dX12_term_46 ?_
          refine lv_istore (lv' := [(5, .int (((8 : Int32) * x1) + x2)), (4, .int v28_3278), (0, .ref (adr a0)), (1, .int x1), (2, .int x2), (3, .int x3)]) hx hb dX12_term_47 hl (by decide) rfl (fun ls hl => ?_)
          refine lv_iload_n hx hb dX12_term_49 rfl (lv_at hl 4 rfl) ?_
          refine lv_aload_n hx hb dX12_term_50 rfl (lv_at hl 2 rfl) ?_
          refine sm_get (ci := 12) (C := RX12) (T := TX12) (N := 54) (v := .ref (adr (a0 + 3))) hx hb hts hin12 hown hE hP ha0 rfl rfl 7 (by decide) (hts (.fieldLink RX12 32 "OrderMoverModel" "many" "[I") (by decide +kernel)) (fun _ h9 => h9) rfl dX12_term_51 ?_
          refine lv_iload_n hx hb dX12_term_54 rfl (lv_at hl 3 rfl) ?_
          obtain ⟨c55_3282, h⟩ := sm_ck h
          refine sm_iald hx hb hE hP (t12_7 ha0) c55_3282 dX12_term_55 ?_
          refine lv_icmp_lt (tgt := 64) hx hb dX12_term_56 (by decide) (fun c56_3283 => ?_) (fun c56_3283 => ?_)
          · rw [if_pos c56_3283] at h
            refine lv_iload_n hx hb dX12_term_64 rfl (lv_at hl 5 rfl) ?_
            refine lv_if_ne (tgt := 78) hx hb dX12_term_65 (by decide) (fun c65_3284 => ?_) (fun c65_3284 => ?_)
            · rw [if_neg c65_3284] at h
              refine lv_iload_n hx hb dX12_term_78 rfl (lv_at hl 5 rfl) ?_
              refine lv_iconst (v := (1 : Int32)) hx hb dX12_term_79 (by decide) ?_
              refine lv_icmp_ne (tgt := 93) hx hb dX12_term_80 (by decide) (fun c80_3285 => ?_) (fun c80_3285 => ?_)
              · rw [if_neg c80_3285] at h
                refine lv_aload_n hx hb dX12_term_93 rfl (lv_at hl 2 rfl) ?_
                refine sm_get (ci := 12) (C := RX12) (T := TX12) (N := 54) (v := .ref (adr (a0 + 6))) hx hb hts hin12 hown hE hP ha0 rfl rfl 10 (by decide) (hts (.fieldLink RX12 41 "OrderMoverModel" "powersJ" "[I") (by decide +kernel)) (fun _ h9 => h9) rfl dX12_term_94 ?_
                refine lv_iload hx hb dX12_term_97 (lv_at hl 0 rfl) ?_
                obtain ⟨c99_3286, h⟩ := sm_ck h
                refine sm_iald hx hb hE hP (t12_10 ha0) c99_3286 dX12_term_99 ?_
                cases h
                exact sm_iret hx hb hr hlocks hP hS dX12_term_100
              · rw [if_pos c80_3285] at h
                refine lv_aload_n hx hb dX12_term_83 rfl (lv_at hl 2 rfl) ?_
                refine sm_get (ci := 12) (C := RX12) (T := TX12) (N := 54) (v := .ref (adr (a0 + 5))) hx hb hts hin12 hown hE hP ha0 rfl rfl 9 (by decide) (hts (.fieldLink RX12 38 "OrderMoverModel" "powersI" "[I") (by decide +kernel)) (fun _ h9 => h9) rfl dX12_term_84 ?_
                refine lv_iload hx hb dX12_term_87 (lv_at hl 0 rfl) ?_
                obtain ⟨c89_3287, h⟩ := sm_ck h
                refine sm_iald hx hb hE hP (t12_9 ha0) c89_3287 dX12_term_89 ?_
                refine lv_goto (tgt := 100) hx hb dX12_term_90 (by decide) ?_
                cases h
                exact sm_iret hx hb hr hlocks hP hS dX12_term_100
            · rw [if_pos c65_3284] at h
              refine lv_aload_n hx hb dX12_term_68 rfl (lv_at hl 2 rfl) ?_
              refine sm_get (ci := 12) (C := RX12) (T := TX12) (N := 54) (v := .ref (adr (a0 + 4))) hx hb hts hin12 hown hE hP ha0 rfl rfl 8 (by decide) (hts (.fieldLink RX12 35 "OrderMoverModel" "numbers" "[I") (by decide +kernel)) (fun _ h9 => h9) rfl dX12_term_69 ?_
              refine lv_iload hx hb dX12_term_72 (lv_at hl 0 rfl) ?_
              obtain ⟨c74_3288, h⟩ := sm_ck h
              refine sm_iald hx hb hE hP (t12_8 ha0) c74_3288 dX12_term_74 ?_
              refine lv_goto (tgt := 100) hx hb dX12_term_75 (by decide) ?_
              cases h
              exact sm_iret hx hb hr hlocks hP hS dX12_term_100
          · rw [if_neg c56_3283] at h
            refine lv_bipush (v := (-4 : Int32)) hx hb dX12_term_59 (by decide) ?_
            refine lv_goto (tgt := 100) hx hb dX12_term_61 (by decide) ?_
            cases h
            exact sm_iret hx hb hr hlocks hP hS dX12_term_100
        · rw [if_neg c35_3281] at h
          refine lv_iload hx hb dX12_term_38 (lv_at hl 0 rfl) ?_
          cases h
          exact sm_iret hx hb hr hlocks hP hS dX12_term_40
      · rw [if_pos c20_3277] at h
        refine lv_iconst (v := (-1 : Int32)) hx hb dX12_term_23 (by decide) ?_
        cases h
        exact sm_iret hx hb hr hlocks hP hS dX12_term_24
