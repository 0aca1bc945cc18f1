set_option maxHeartbeats 4000000 in
set_option maxRecDepth 100000 in
theorem k_X12_times (l : Launch) (D : va_G) (cA : Nat → ClassId) (adr : Nat → Nat) (hJ : smJ 2 adr) (a0 : Nat) (x1 : Int32) (x2 : Int32) (x3 : Int32) (ha0 : smT 2 a0 12) (M : smM) (v1 : Int32) (M1 : smM) (h : m_X12_times a0 x1 x2 x3 M = some (v1, M1)) : Met l yX12_times wsX12_times ({ frames := 2, cells := 0, slots := 0, locals := 45 }) (smPc D cA 2 adr M [.ref (adr a0), .int x1, .int x2, .int x3]) (smQi D cA 2 adr M1 v1) 0 0 (smA 2 adr) := by
  refine Met.ofW (cc := cX12_times) (maxL := 6) (ret := (some .int)) (by decide) rfl ?_
  intro p e s m args below meth c s₁ B hml hv
  obtain ⟨rfl, hE, hP⟩ := hv
  have hx := B.exec
  have hb := B.bytes
  have hr := B.returns
  have hts := atoms_spec (ws := wsX12_times) B.pre
  have hown : s.vm.findClass RX12 = some m.cls := findClass_of_methodNamed B.named
  have hlocks := B.notSynchronized
  have hS : va_S (smA 2 adr) s.heap s.heap [] := va_S.rf
  have hP : smP D cA 2 adr M s.heap := hP
  have hl := lv_entry ([.ref (adr a0), .int x1, .int x2, .int x3]) (n := 6) (Nat.le_of_ble_eq_true rfl)
  rw [lg_entry_eq]
  generalize (lg_sl ([.ref (adr a0), .int x1, .int x2, .int x3]) ++ List.replicate (6 - (lg_sl ([.ref (adr a0), .int x1, .int x2, .int x3])).length) Slot.unset).toArray = ls at hl ⊢
  have hl : lv_has ls 6 [(0, .ref (adr a0)), (1, .int x1), (2, .int x2), (3, .int x3)] := hl
  unfold m_X12_times at h
  have hin12 : ∀ w ∈ u_ws RX12 TX12 54, w ∈ wsX12_times := by decide +kernel
  refine lv_iload_n hx hb dX12_times_0 rfl (lv_at hl 1 rfl) ?_
  obtain ⟨v1_3289, hc1_3291, h⟩ := sm_bd h
  refine sm_ci (va_runS (As := [.int x1]) (rest := []) ⟨hx, hb, hml, hown, hts⟩ (k_X12_isSlot l D cA adr hJ x1  M v1_3289 hc1_3291) (va_cwS 1 hts gX12_times_X12_isSlot rfl rfl rfl (by decide +kernel) ⟨Nat.le_of_ble_eq_true rfl, Nat.le_of_ble_eq_true rfl⟩) ⟨smPc_bl, smPc_in [.int x1] hE hP⟩ rfl rfl hl.1 rfl (lv_room (Nat.le_of_ble_eq_true rfl)) dX12_times_1 ⟨Nat.zero_le _, Nat.zero_le _⟩) hS (fun H locs hP hS => ?_)
  refine lv_if_eq (tgt := 15) hx hb dX12_times_4 (by decide) (fun c4_3292 => ?_) (fun c4_3292 => ?_)
  · rw [if_pos c4_3292] at h
    refine lv_iconst (v := (-1 : Int32)) hx hb dX12_times_15 (by decide) ?_
    cases h
    exact sm_iret hx hb hr hlocks hP hS dX12_times_16
  · rw [if_neg c4_3292] at h
    refine lv_iload_n hx hb dX12_times_7 rfl (lv_at hl 2 rfl) ?_
    refine lv_if_lt (tgt := 15) hx hb dX12_times_8 (by decide) (fun c8_3293 => ?_) (fun c8_3293 => ?_)
    · rw [if_pos c8_3293] at h
      refine lv_iconst (v := (-1 : Int32)) hx hb dX12_times_15 (by decide) ?_
      cases h
      exact sm_iret hx hb hr hlocks hP hS dX12_times_16
    · rw [if_neg c8_3293] at h
      refine lv_iload_n hx hb dX12_times_11 rfl (lv_at hl 3 rfl) ?_
      refine lv_if_ge (tgt := 17) hx hb dX12_times_12 (by decide) (fun c12_3294 => ?_) (fun c12_3294 => ?_)
      · rw [if_pos c12_3294] at h
        refine lv_aload_n hx hb dX12_times_17 rfl (lv_at hl 0 rfl) ?_
        refine lv_iload_n hx hb dX12_times_18 rfl (lv_at hl 1 rfl) ?_
        refine lv_iconst (v := (1 : Int32)) hx hb dX12_times_19 (by decide) ?_
        obtain ⟨v20_3295, hc20_3297, h⟩ := sm_bd h
        refine sm_ci (va_runV (As := [.int x1, .int (1 : Int32)]) (rest := []) ⟨hx, hb, hml, hown, hts⟩ (k_X12_lacks l D cA adr hJ a0 x1 (1 : Int32) ha0 M v20_3295 hc20_3297) (cwV 2 hts gX12_times_X12_lacks rfl rfl rfl (by decide +kernel) ⟨Nat.le_of_ble_eq_true rfl, Nat.le_of_ble_eq_true rfl⟩) ⟨smPc_bl, smRv hE hP ha0 rfl (ci := 12) (q := (RX12, TX12, 54)) rfl, smPc_in [.ref (adr a0), .int x1, .int (1 : Int32)] hE hP⟩ rfl rfl hl.1 rfl (lv_room (Nat.le_of_ble_eq_true rfl)) dX12_times_20 ⟨Nat.zero_le _, Nat.zero_le _⟩) hS (fun H locs hP hS => ?_)
        refine lv_istore (lv' := [(4, .int v20_3295), (0, .ref (adr a0)), (1, .int x1), (2, .int x2), (3, .int x3)]) hx hb dX12_times_23 hl (by decide) rfl (fun ls hl => ?_)
        refine lv_iload hx hb dX12_times_25 (lv_at hl 0 rfl) ?_
        refine lv_if_ge (tgt := 33) hx hb dX12_times_27 (by decide) (fun c27_3298 => ?_) (fun c27_3298 => ?_)
        · rw [if_pos c27_3298] at h
          refine lv_bipush (v := (8 : Int32)) hx hb dX12_times_33 (by decide) ?_
          refine lv_iload_n hx hb dX12_times_35 rfl (lv_at hl 2 rfl) ?_
          refine lv_imul hx hb dX12_times_36 ?_
          refine lv_istore (lv' := [(5, .int ((8 : Int32) * x1)), (4, .int v20_3295), (0, .ref (adr a0)), (1, .int x1), (2, .int x2), (3, .int x3)]) hx hb dX12_times_37 hl (by decide) rfl (fun ls hl => ?_)
          refine sm_lp (b := fun rc q => m_X12_times_b39 a0 x1 x2 x3 M rc q) (P := fun (q : Int32) H locs ls => smP D cA 2 adr M H ∧ va_S (smA 2 adr) s.heap H locs ∧ lv_has ls 6 [(0, .ref (adr a0)), (1, .int x1), (2, .int x2), (3, .int x3), (5, .int q)]) (pc := 39) ?_ _ _ _ _ _ h ⟨hP, hS, lv_sub hl [2, 3, 4, 5, 0] rfl⟩
          intro rc39_3300 ih39_3301 q H locs ls h hI
          obtain ⟨x5_39_3299, hq⟩ : ∃ y, y = q := ⟨_, rfl⟩; subst hq
          obtain ⟨hP, hS, hl⟩ := hI
          have hP : smP D cA 2 adr M H := hP
          have hl : lv_has ls 6 [(0, .ref (adr a0)), (1, .int x1), (2, .int x2), (3, .int x3), (5, .int x5_39_3299)] := hl
          have h : m_X12_times_b39 a0 x1 x2 x3 M rc39_3300 x5_39_3299 = some _ := h
          unfold m_X12_times_b39 at h
          refine lv_iload hx hb dX12_times_39 (lv_at hl 4 rfl) ?_
          refine lv_bipush (v := (8 : Int32)) hx hb dX12_times_41 (by decide) ?_
          refine lv_iload_n hx hb dX12_times_43 rfl (lv_at hl 1 rfl) ?_
          refine lv_imul hx hb dX12_times_44 ?_
          refine lv_aload_n hx hb dX12_times_45 rfl (lv_at hl 0 rfl) ?_
          refine sm_get (ci := 12) (C := RX12) (T := TX12) (N := 54) (v := .ref (adr (a0 + 3))) hx hb hts hin12 hown hE hP ha0 rfl rfl 7 (by decide) (hts (.fieldLink RX12 32 "OrderMoverModel" "many" "[I") (by decide +kernel)) (fun _ h9 => h9) rfl dX12_times_46 ?_
          refine lv_iload_n hx hb dX12_times_49 rfl (lv_at hl 1 rfl) ?_
          obtain ⟨c50_3302, h⟩ := sm_ck h
          refine sm_iald hx hb hE hP (t12_7 ha0) c50_3302 dX12_times_50 ?_
          refine lv_iadd hx hb dX12_times_51 ?_
          refine lv_icmp_ge (tgt := 100) hx hb dX12_times_52 (by decide) (fun c52_3303 => ?_) (fun c52_3303 => ?_)
          · rw [if_pos c52_3303] at h
            refine lv_bipush (v := (8 : Int32)) hx hb dX12_times_100 (by decide) ?_
            refine lv_iload_n hx hb dX12_times_102 rfl (lv_at hl 1 rfl) ?_
            refine lv_imul hx hb dX12_times_103 ?_
            refine lv_istore (lv' := [(5, .int ((8 : Int32) * x1)), (0, .ref (adr a0)), (1, .int x1), (2, .int x2), (3, .int x3)]) hx hb dX12_times_104 hl (by decide) rfl (fun ls hl => ?_)
            refine sm_lp (b := fun rc q => m_X12_times_b106 a0 x1 x2 x3 rc39_3300 rc q.1 q.2) (P := fun (q : Int32 × smM) H locs ls => smP D cA 2 adr q.2 H ∧ va_S (smA 2 adr) s.heap H locs ∧ lv_has ls 6 [(0, .ref (adr a0)), (1, .int x1), (2, .int x2), (3, .int x3), (5, .int q.1)]) (pc := 106) ?_ _ _ _ _ _ h ⟨hP, hS, lv_sub hl [1, 2, 3, 4, 0] rfl⟩
            intro rc106_3306 ih106_3307 q H locs ls h hI
            obtain ⟨x5_106_3304, M106_3305⟩ := q
            obtain ⟨hP, hS, hl⟩ := hI
            have hP : smP D cA 2 adr M106_3305 H := hP
            have hl : lv_has ls 6 [(0, .ref (adr a0)), (1, .int x1), (2, .int x2), (3, .int x3), (5, .int x5_106_3304)] := hl
            have h : m_X12_times_b106 a0 x1 x2 x3 rc39_3300 rc106_3306 x5_106_3304 M106_3305 = some _ := h
            unfold m_X12_times_b106 at h
            refine lv_iload hx hb dX12_times_106 (lv_at hl 4 rfl) ?_
            refine lv_bipush (v := (8 : Int32)) hx hb dX12_times_108 (by decide) ?_
            refine lv_iload_n hx hb dX12_times_110 rfl (lv_at hl 1 rfl) ?_
            refine lv_imul hx hb dX12_times_111 ?_
            refine lv_aload_n hx hb dX12_times_112 rfl (lv_at hl 0 rfl) ?_
            refine sm_get (ci := 12) (C := RX12) (T := TX12) (N := 54) (v := .ref (adr (a0 + 3))) hx hb hts hin12 hown hE hP ha0 rfl rfl 7 (by decide) (hts (.fieldLink RX12 32 "OrderMoverModel" "many" "[I") (by decide +kernel)) (fun _ h9 => h9) rfl dX12_times_113 ?_
            refine lv_iload_n hx hb dX12_times_116 rfl (lv_at hl 1 rfl) ?_
            obtain ⟨c117_3308, h⟩ := sm_ck h
            refine sm_iald hx hb hE hP (t12_7 ha0) c117_3308 dX12_times_117 ?_
            refine lv_iadd hx hb dX12_times_118 ?_
            refine lv_icmp_ge (tgt := 150) hx hb dX12_times_119 (by decide) (fun c119_3309 => ?_) (fun c119_3309 => ?_)
            · rw [if_pos c119_3309] at h
              refine lv_aload_n hx hb dX12_times_150 rfl (lv_at hl 0 rfl) ?_
              refine sm_get (ci := 12) (C := RX12) (T := TX12) (N := 54) (v := .ref (adr (a0 + 3))) hx hb hts hin12 hown hE hP ha0 rfl rfl 7 (by decide) (hts (.fieldLink RX12 32 "OrderMoverModel" "many" "[I") (by decide +kernel)) (fun _ h9 => h9) rfl dX12_times_151 ?_
              refine lv_iload_n hx hb dX12_times_154 rfl (lv_at hl 1 rfl) ?_
              obtain ⟨c155_3310, h⟩ := sm_ck h
              refine sm_iald hx hb hE hP (t12_7 ha0) c155_3310 dX12_times_155 ?_
              cases h
              exact sm_iret hx hb hr hlocks hP hS dX12_times_156
            · rw [if_neg c119_3309] at h
              refine lv_aload_n hx hb dX12_times_122 rfl (lv_at hl 0 rfl) ?_
              refine sm_get (ci := 12) (C := RX12) (T := TX12) (N := 54) (v := .ref (adr (a0 + 5))) hx hb hts hin12 hown hE hP ha0 rfl rfl 9 (by decide) (hts (.fieldLink RX12 38 "OrderMoverModel" "powersI" "[I") (by decide +kernel)) (fun _ h9 => h9) rfl dX12_times_123 ?_
              refine lv_iload hx hb dX12_times_126 (lv_at hl 4 rfl) ?_
              refine lv_dup2_11 hx hb dX12_times_128 rfl rfl ?_
              obtain ⟨c129_3311, h⟩ := sm_ck h
              refine sm_iald hx hb hE hP (t12_9 ha0) c129_3311 dX12_times_129 ?_
              refine lv_iload_n hx hb dX12_times_130 rfl (lv_at hl 2 rfl) ?_
              refine lv_iadd hx hb dX12_times_131 ?_
              obtain ⟨c132_3312, h⟩ := sm_ck h
              refine sm_iast hx hb hE hJ hP hS (t12_9 ha0) c132_3312 dX12_times_132 (fun H locs hP hS => ?_)
              obtain ⟨M132_3313, hM, h⟩ := sm_lt h
              rw [← hM] at hP; clear hM
              refine lv_aload_n hx hb dX12_times_133 rfl (lv_at hl 0 rfl) ?_
              refine sm_get (ci := 12) (C := RX12) (T := TX12) (N := 54) (v := .ref (adr (a0 + 6))) hx hb hts hin12 hown hE hP ha0 rfl rfl 10 (by decide) (hts (.fieldLink RX12 41 "OrderMoverModel" "powersJ" "[I") (by decide +kernel)) (fun _ h9 => h9) rfl dX12_times_134 ?_
              refine lv_iload hx hb dX12_times_137 (lv_at hl 4 rfl) ?_
              refine lv_dup2_11 hx hb dX12_times_139 rfl rfl ?_
              obtain ⟨c140_3314, h⟩ := sm_ck h
              refine sm_iald hx hb hE hP (t12_10 ha0) c140_3314 dX12_times_140 ?_
              refine lv_iload_n hx hb dX12_times_141 rfl (lv_at hl 3 rfl) ?_
              refine lv_iadd hx hb dX12_times_142 ?_
              obtain ⟨c143_3315, h⟩ := sm_ck h
              refine sm_iast hx hb hE hJ hP hS (t12_10 ha0) c143_3315 dX12_times_143 (fun H locs hP hS => ?_)
              obtain ⟨M143_3316, hM, h⟩ := sm_lt h
              rw [← hM] at hP; clear hM
              refine lv_iinc (v := (x5_106_3304 + (1 : Int32))) (lv' := [(5, .int (x5_106_3304 + (1 : Int32))), (0, .ref (adr a0)), (1, .int x1), (2, .int x2), (3, .int x3)]) hx hb dX12_times_144 hl (k := 4) rfl (congrArg (fun z => x5_106_3304 + z) (by decide)) (by decide) rfl (fun ls hl => ?_)
              refine lv_goto (tgt := 106) hx hb dX12_times_147 (by decide) ?_
              exact ih106_3307 ((x5_106_3304 + (1 : Int32)), M143_3316) _ _ _ h ⟨hP, hS, lv_sub hl [1, 2, 3, 4, 0] rfl⟩
          · rw [if_neg c52_3303] at h
            refine lv_aload_n hx hb dX12_times_55 rfl (lv_at hl 0 rfl) ?_
            refine sm_get (ci := 12) (C := RX12) (T := TX12) (N := 54) (v := .ref (adr (a0 + 5))) hx hb hts hin12 hown hE hP ha0 rfl rfl 9 (by decide) (hts (.fieldLink RX12 38 "OrderMoverModel" "powersI" "[I") (by decide +kernel)) (fun _ h9 => h9) rfl dX12_times_56 ?_
            refine lv_iload hx hb dX12_times_59 (lv_at hl 4 rfl) ?_
            obtain ⟨c61_3317, h⟩ := sm_ck h
            refine sm_iald hx hb hE hP (t12_9 ha0) c61_3317 dX12_times_61 ?_
            refine lv_i2l hx hb dX12_times_62 rfl ?_
            refine lv_iload_n hx hb dX12_times_63 rfl (lv_at hl 2 rfl) ?_
            refine lv_i2l hx hb dX12_times_64 rfl ?_
            refine lv_ladd hx hb dX12_times_65 ?_
            refine lv_ldc2 (v := (2147483647 : Int64)) hx hb hown (hts (.constantLong RX12 182 (2147483647)) (by decide +kernel)) dX12_times_66 ?_
            refine W.lcmp hx hb dX12_times_69 ?_
            refine lv_if_gt (tgt := 91) hx hb dX12_times_70 (by decide) (fun c70_3318 => ?_) (fun c70_3318 => ?_)
            · rw [if_pos c70_3318] at h
              refine lv_bipush (v := (-13 : Int32)) hx hb dX12_times_91 (by decide) ?_
              cases h
              exact sm_iret hx hb hr hlocks hP hS dX12_times_93
            · rw [if_neg c70_3318] at h
              refine lv_aload_n hx hb dX12_times_73 rfl (lv_at hl 0 rfl) ?_
              refine sm_get (ci := 12) (C := RX12) (T := TX12) (N := 54) (v := .ref (adr (a0 + 6))) hx hb hts hin12 hown hE hP ha0 rfl rfl 10 (by decide) (hts (.fieldLink RX12 41 "OrderMoverModel" "powersJ" "[I") (by decide +kernel)) (fun _ h9 => h9) rfl dX12_times_74 ?_
              refine lv_iload hx hb dX12_times_77 (lv_at hl 4 rfl) ?_
              obtain ⟨c79_3319, h⟩ := sm_ck h
              refine sm_iald hx hb hE hP (t12_10 ha0) c79_3319 dX12_times_79 ?_
              refine lv_i2l hx hb dX12_times_80 rfl ?_
              refine lv_iload_n hx hb dX12_times_81 rfl (lv_at hl 3 rfl) ?_
              refine lv_i2l hx hb dX12_times_82 rfl ?_
              refine lv_ladd hx hb dX12_times_83 ?_
              refine lv_ldc2 (v := (2147483647 : Int64)) hx hb hown (hts (.constantLong RX12 182 (2147483647)) (by decide +kernel)) dX12_times_84 ?_
              refine W.lcmp hx hb dX12_times_87 ?_
              refine lv_if_le (tgt := 94) hx hb dX12_times_88 (by decide) (fun c88_3320 => ?_) (fun c88_3320 => ?_)
              · rw [if_pos c88_3320] at h
                refine lv_iinc (v := (x5_39_3299 + (1 : Int32))) (lv' := [(5, .int (x5_39_3299 + (1 : Int32))), (0, .ref (adr a0)), (1, .int x1), (2, .int x2), (3, .int x3)]) hx hb dX12_times_94 hl (k := 4) rfl (congrArg (fun z => x5_39_3299 + z) (by decide)) (by decide) rfl (fun ls hl => ?_)
                refine lv_goto (tgt := 39) hx hb dX12_times_97 (by decide) ?_
                exact ih39_3301 (x5_39_3299 + (1 : Int32)) _ _ _ h ⟨hP, hS, lv_sub hl [1, 2, 3, 4, 0] rfl⟩
              · rw [if_neg c88_3320] at h
                refine lv_bipush (v := (-13 : Int32)) hx hb dX12_times_91 (by decide) ?_
                cases h
                exact sm_iret hx hb hr hlocks hP hS dX12_times_93
        · rw [if_neg c27_3298] at h
          refine lv_iload hx hb dX12_times_30 (lv_at hl 0 rfl) ?_
          cases h
          exact sm_iret hx hb hr hlocks hP hS dX12_times_32
      · rw [if_neg c12_3294] at h
        refine lv_iconst (v := (-1 : Int32)) hx hb dX12_times_15 (by decide) ?_
        cases h
        exact sm_iret hx hb hr hlocks hP hS dX12_times_16
set_option maxHeartbeats 4000000 in
set_option maxRecDepth 100000 in
theorem k_X12_weights (l : Launch) (D : va_G) (cA : Nat → ClassId) (adr : Nat → Nat) (hJ : smJ 2 adr) (a0 : Nat) (x1 : Int32) (x2 : Int32) (ha0 : smT 2 a0 12) (M : smM) (v1 : Int32) (M1 : smM) (h : m_X12_weights a0 x1 x2 M = some (v1, M1)) : Met l yX12_weights wsX12_weights ({ frames := 1, cells := 0, slots := 0, locals := 25 }) (smPc D cA 2 adr M [.ref (adr a0), .int x1, .int x2]) (smQi D cA 2 adr M1 v1) 0 0 (smA 2 adr) := by
  refine Met.ofW (cc := cX12_weights) (maxL := 4) (ret := (some .int)) (by decide) rfl ?_
  intro p e s m args below meth c s₁ B hml hv
  obtain ⟨rfl, hE, hP⟩ := hv
  have hx := B.exec
  have hb := B.bytes
  have hr := B.returns
  have hts := atoms_spec (ws := wsX12_weights) B.pre
  have hown : s.vm.findClass RX12 = some m.cls := findClass_of_methodNamed B.named
  have hlocks := B.notSynchronized
  have hS : va_S (smA 2 adr) s.heap s.heap [] := va_S.rf
  have hP : smP D cA 2 adr M s.heap := hP
  have hl := lv_entry ([.ref (adr a0), .int x1, .int x2]) (n := 4) (Nat.le_of_ble_eq_true rfl)
  rw [lg_entry_eq]
  generalize (lg_sl ([.ref (adr a0), .int x1, .int x2]) ++ List.replicate (4 - (lg_sl ([.ref (adr a0), .int x1, .int x2])).length) Slot.unset).toArray = ls at hl ⊢
  have hl : lv_has ls 4 [(0, .ref (adr a0)), (1, .int x1), (2, .int x2)] := hl
  unfold m_X12_weights at h
  have hin12 : ∀ w ∈ u_ws RX12 TX12 54, w ∈ wsX12_weights := by decide +kernel
  refine lv_iload_n hx hb dX12_weights_0 rfl (lv_at hl 1 rfl) ?_
  refine lv_i2l hx hb dX12_weights_1 rfl ?_
  refine lv_lconst (v := (1 : Int64)) hx hb dX12_weights_2 (by decide) ?_
  refine lv_ldc2 (v := (9 : Int64)) hx hb hown (hts (.constantLong RX12 176 (9)) (by decide +kernel)) dX12_weights_3 ?_
  obtain ⟨v6_3321, hc6_3323, h⟩ := sm_bd h
  refine sm_ci (va_runS (As := [.long ((x1).toInt64), .long (1 : Int64), .long (9 : Int64)]) (rest := []) ⟨hx, hb, hml, hown, hts⟩ (k_X12_in l D cA adr hJ ((x1).toInt64) (1 : Int64) (9 : Int64)  M v6_3321 hc6_3323) (va_cwS 3 hts gX12_weights_X12_in rfl rfl rfl (by decide +kernel) ⟨Nat.le_of_ble_eq_true rfl, Nat.le_of_ble_eq_true rfl⟩) ⟨smPc_bl, smPc_in [.long ((x1).toInt64), .long (1 : Int64), .long (9 : Int64)] hE hP⟩ rfl rfl hl.1 rfl (lv_room (Nat.le_of_ble_eq_true rfl)) dX12_weights_6 ⟨Nat.zero_le _, Nat.zero_le _⟩) hS (fun H locs hP hS => ?_)
  refine lv_if_eq (tgt := 24) hx hb dX12_weights_9 (by decide) (fun c9_3324 => ?_) (fun c9_3324 => ?_)
  · rw [if_pos c9_3324] at h
    refine lv_iconst (v := (-1 : Int32)) hx hb dX12_weights_24 (by decide) ?_
    cases h
    exact sm_iret hx hb hr hlocks hP hS dX12_weights_25
  · rw [if_neg c9_3324] at h
    refine lv_iload_n hx hb dX12_weights_12 rfl (lv_at hl 2 rfl) ?_
    refine lv_i2l hx hb dX12_weights_13 rfl ?_
    refine lv_lconst (v := (1 : Int64)) hx hb dX12_weights_14 (by decide) ?_
    refine lv_ldc2 (v := (9 : Int64)) hx hb hown (hts (.constantLong RX12 176 (9)) (by decide +kernel)) dX12_weights_15 ?_
    obtain ⟨v18_3325, hc18_3327, h⟩ := sm_bd h
    refine sm_ci (va_runS (As := [.long ((x2).toInt64), .long (1 : Int64), .long (9 : Int64)]) (rest := []) ⟨hx, hb, hml, hown, hts⟩ (k_X12_in l D cA adr hJ ((x2).toInt64) (1 : Int64) (9 : Int64)  M v18_3325 hc18_3327) (va_cwS 3 hts gX12_weights_X12_in rfl rfl rfl (by decide +kernel) ⟨Nat.le_of_ble_eq_true rfl, Nat.le_of_ble_eq_true rfl⟩) ⟨smPc_bl, smPc_in [.long ((x2).toInt64), .long (1 : Int64), .long (9 : Int64)] hE hP⟩ rfl rfl hl.1 rfl (lv_room (Nat.le_of_ble_eq_true rfl)) dX12_weights_18 ⟨Nat.zero_le _, Nat.zero_le _⟩) hS (fun H locs hP hS => ?_)
    refine lv_if_ne (tgt := 26) hx hb dX12_weights_21 (by decide) (fun c21_3328 => ?_) (fun c21_3328 => ?_)
    · rw [if_neg c21_3328] at h
      refine lv_bipush (v := (10 : Int32)) hx hb dX12_weights_26 (by decide) ?_
      refine lv_aload_n hx hb dX12_weights_28 rfl (lv_at hl 0 rfl) ?_
      refine sm_get (ci := 12) (C := RX12) (T := TX12) (N := 54) (v := .int (M a0 3)) hx hb hts hin12 hown hE hP ha0 rfl rfl 3 (by decide) (hts (.fieldLink RX12 19 "OrderMoverModel" "u" "I") (by decide +kernel)) (fun _ h9 => h9) rfl dX12_weights_29 ?_
      refine lv_imul hx hb dX12_weights_32 ?_
      refine lv_aload_n hx hb dX12_weights_33 rfl (lv_at hl 0 rfl) ?_
      refine sm_get (ci := 12) (C := RX12) (T := TX12) (N := 54) (v := .int (M a0 4)) hx hb hts hin12 hown hE hP ha0 rfl rfl 4 (by decide) (hts (.fieldLink RX12 22 "OrderMoverModel" "v" "I") (by decide +kernel)) (fun _ h9 => h9) rfl dX12_weights_34 ?_
      refine lv_iadd hx hb dX12_weights_37 ?_
      refine lv_istore_n (lv' := [(3, .int (((10 : Int32) * (M a0 3)) + (M a0 4))), (0, .ref (adr a0)), (1, .int x1), (2, .int x2)]) hx hb dX12_weights_38 rfl hl (by decide) rfl (fun ls hl => ?_)
      refine lv_aload_n hx hb dX12_weights_39 rfl (lv_at hl 1 rfl) ?_
      refine lv_iload_n hx hb dX12_weights_40 rfl (lv_at hl 2 rfl) ?_
      refine sm_put (ci := 12) (C := RX12) (T := TX12) (N := 54) (ty := .int) hx hb hts hin12 tyX12 tyX12_ok nmX12 hown hE hJ hP hS ha0 rfl rfl 3 (by decide) (hts (.fieldLink RX12 19 "OrderMoverModel" "u" "I") (by decide +kernel)) (fun _ h9 => h9) rfl (by decide +kernel) rfl rfl (Nat.le_of_ble_eq_true rfl) rfl dX12_weights_41 (fun H locs hP hS => ?_)
      obtain ⟨M41_3329, hM, h⟩ := sm_lt h
      rw [← hM] at hP; clear hM
      refine lv_aload_n hx hb dX12_weights_44 rfl (lv_at hl 1 rfl) ?_
      refine lv_iload_n hx hb dX12_weights_45 rfl (lv_at hl 3 rfl) ?_
      refine sm_put (ci := 12) (C := RX12) (T := TX12) (N := 54) (ty := .int) hx hb hts hin12 tyX12 tyX12_ok nmX12 hown hE hJ hP hS ha0 rfl rfl 4 (by decide) (hts (.fieldLink RX12 22 "OrderMoverModel" "v" "I") (by decide +kernel)) (fun _ h9 => h9) rfl (by decide +kernel) rfl rfl (Nat.le_of_ble_eq_true rfl) rfl dX12_weights_46 (fun H locs hP hS => ?_)
      obtain ⟨M46_3330, hM, h⟩ := sm_lt h
      rw [← hM] at hP; clear hM
      refine lv_iload_n hx hb dX12_weights_49 rfl (lv_at hl 0 rfl) ?_
      cases h
      exact sm_iret hx hb hr hlocks hP hS dX12_weights_50
    · rw [if_pos c21_3328] at h
      refine lv_iconst (v := (-1 : Int32)) hx hb dX12_weights_24 (by decide) ?_
      cases h
      exact sm_iret hx hb hr hlocks hP hS dX12_weights_25
