set_option maxHeartbeats 4000000 in
set_option maxRecDepth 100000 in
theorem k_X12_laysForms (l : Launch) (D : va_G) (cA : Nat → ClassId) (adr : Nat → Nat) (hJ : smJ 2 adr) (a0 : Nat) (ha0 : smT 2 a0 12) (M : smM) (M1 : smM) (h : m_X12_laysForms a0 M = some M1) : Met l yX12_laysForms wsX12_laysForms ({ frames := 2, cells := 0, slots := 0, locals := 54 }) (smPc D cA 2 adr M [.ref (adr a0)]) (smQv D cA 2 adr M1) 0 0 (smA 2 adr) := by
  refine Met.ofW (cc := cX12_laysForms) (maxL := 5) (ret := none) (by decide) rfl ?_
  intro p e s m args below meth c s₁ B hml hv
  obtain ⟨rfl, hE, hP⟩ := hv
  have hx := B.exec
  have hb := B.bytes
  have hr := B.returns
  have hts := atoms_spec (ws := wsX12_laysForms) B.pre
  have hown : s.vm.findClass RX12 = some m.cls := findClass_of_methodNamed B.named
  have hlocks := B.notSynchronized
  have hS : va_S (smA 2 adr) s.heap s.heap [] := va_S.rf
  have hP : smP D cA 2 adr M s.heap := hP
  have hl := lv_entry ([.ref (adr a0)]) (n := 5) (Nat.le_of_ble_eq_true rfl)
  rw [lg_entry_eq]
  generalize (lg_sl ([.ref (adr a0)]) ++ List.replicate (5 - (lg_sl ([.ref (adr a0)])).length) Slot.unset).toArray = ls at hl ⊢
  have hl : lv_has ls 5 [(0, .ref (adr a0))] := hl
  unfold m_X12_laysForms at h
  have hin12 : ∀ w ∈ u_ws RX12 TX12 54, w ∈ wsX12_laysForms := by decide +kernel
  refine lv_iconst (v := (0 : Int32)) hx hb dX12_laysForms_0 (by decide) ?_
  refine lv_istore_n (lv' := [(1, .int (0 : Int32)), (0, .ref (adr a0))]) hx hb dX12_laysForms_1 rfl hl (by decide) rfl (fun ls hl => ?_)
  refine sm_lp (b := fun rc q => m_X12_laysForms_b2 a0 rc q.1 q.2) (P := fun (q : Int32 × smM) H locs ls => smP D cA 2 adr q.2 H ∧ va_S (smA 2 adr) s.heap H locs ∧ lv_has ls 5 [(0, .ref (adr a0)), (1, .int q.1)]) (pc := 2) ?_ _ _ _ _ _ h ⟨hP, hS, lv_sub hl [1, 0] rfl⟩
  intro rc2_2095 ih2_2096 q H locs ls h hI
  obtain ⟨x1_2_2093, M2_2094⟩ := q
  obtain ⟨hP, hS, hl⟩ := hI
  have hP : smP D cA 2 adr M2_2094 H := hP
  have hl : lv_has ls 5 [(0, .ref (adr a0)), (1, .int x1_2_2093)] := hl
  have h : m_X12_laysForms_b2 a0 rc2_2095 x1_2_2093 M2_2094 = some _ := h
  unfold m_X12_laysForms_b2 at h
  refine lv_iload_n hx hb dX12_laysForms_2 rfl (lv_at hl 1 rfl) ?_
  refine lv_bipush (v := (7 : Int32)) hx hb dX12_laysForms_3 (by decide) ?_
  refine lv_icmp_ge (tgt := 35) hx hb dX12_laysForms_5 (by decide) (fun c5_2097 => ?_) (fun c5_2097 => ?_)
  · rw [if_pos c5_2097] at h
    refine lv_iconst (v := (0 : Int32)) hx hb dX12_laysForms_35 (by decide) ?_
    refine lv_istore_n (lv' := [(1, .int (0 : Int32)), (0, .ref (adr a0))]) hx hb dX12_laysForms_36 rfl hl (by decide) rfl (fun ls hl => ?_)
    refine sm_lp (b := fun rc q => m_X12_laysForms_b37 a0 rc2_2095 rc q.1 q.2) (P := fun (q : Int32 × smM) H locs ls => smP D cA 2 adr q.2 H ∧ va_S (smA 2 adr) s.heap H locs ∧ lv_has ls 5 [(0, .ref (adr a0)), (1, .int q.1)]) (pc := 37) ?_ _ _ _ _ _ h ⟨hP, hS, lv_sub hl [1, 0] rfl⟩
    intro rc37_2100 ih37_2101 q H locs ls h hI
    obtain ⟨x1_37_2098, M37_2099⟩ := q
    obtain ⟨hP, hS, hl⟩ := hI
    have hP : smP D cA 2 adr M37_2099 H := hP
    have hl : lv_has ls 5 [(0, .ref (adr a0)), (1, .int x1_37_2098)] := hl
    have h : m_X12_laysForms_b37 a0 rc2_2095 rc37_2100 x1_37_2098 M37_2099 = some _ := h
    unfold m_X12_laysForms_b37 at h
    refine lv_iload_n hx hb dX12_laysForms_37 rfl (lv_at hl 1 rfl) ?_
    refine lv_aload_n hx hb dX12_laysForms_38 rfl (lv_at hl 0 rfl) ?_
    refine sm_get (ci := 12) (C := RX12) (T := TX12) (N := 54) (v := .int (M37_2099 a0 2)) hx hb hts hin12 hown hE hP ha0 rfl rfl 2 (by decide) (hts (.fieldLink RX12 16 "OrderMoverModel" "powerB" "I") (by decide +kernel)) (fun _ h9 => h9) rfl dX12_laysForms_39 ?_
    refine lv_icmp_ge (tgt := 145) hx hb dX12_laysForms_42 (by decide) (fun c42_2102 => ?_) (fun c42_2102 => ?_)
    · rw [if_pos c42_2102] at h
      cases h
      exact sm_vret hx hb hr hlocks hP hS dX12_laysForms_145
    · rw [if_neg c42_2102] at h
      refine lv_iconst (v := (0 : Int32)) hx hb dX12_laysForms_45 (by decide) ?_
      refine lv_istore_n (lv' := [(2, .int (0 : Int32)), (0, .ref (adr a0)), (1, .int x1_37_2098)]) hx hb dX12_laysForms_46 rfl hl (by decide) rfl (fun ls hl => ?_)
      refine sm_lp (b := fun rc q => m_X12_laysForms_b47 a0 x1_37_2098 rc2_2095 rc37_2100 rc q.1 q.2) (P := fun (q : Int32 × smM) H locs ls => smP D cA 2 adr q.2 H ∧ va_S (smA 2 adr) s.heap H locs ∧ lv_has ls 5 [(0, .ref (adr a0)), (1, .int x1_37_2098), (2, .int q.1)]) (pc := 47) ?_ _ _ _ _ _ h ⟨hP, hS, lv_sub hl [1, 2, 0] rfl⟩
      intro rc47_2105 ih47_2106 q H locs ls h hI
      obtain ⟨x2_47_2103, M47_2104⟩ := q
      obtain ⟨hP, hS, hl⟩ := hI
      have hP : smP D cA 2 adr M47_2104 H := hP
      have hl : lv_has ls 5 [(0, .ref (adr a0)), (1, .int x1_37_2098), (2, .int x2_47_2103)] := hl
      have h : m_X12_laysForms_b47 a0 x1_37_2098 rc2_2095 rc37_2100 rc47_2105 x2_47_2103 M47_2104 = some _ := h
      unfold m_X12_laysForms_b47 at h
      refine lv_iload_n hx hb dX12_laysForms_47 rfl (lv_at hl 2 rfl) ?_
      refine lv_aload_n hx hb dX12_laysForms_48 rfl (lv_at hl 0 rfl) ?_
      refine sm_get (ci := 12) (C := RX12) (T := TX12) (N := 54) (v := .int (M47_2104 a0 1)) hx hb hts hin12 hown hE hP ha0 rfl rfl 1 (by decide) (hts (.fieldLink RX12 13 "OrderMoverModel" "powerA" "I") (by decide +kernel)) (fun _ h9 => h9) rfl dX12_laysForms_49 ?_
      refine lv_icmp_ge (tgt := 139) hx hb dX12_laysForms_52 (by decide) (fun c52_2107 => ?_) (fun c52_2107 => ?_)
      · rw [if_pos c52_2107] at h
        refine lv_iinc (v := (x1_37_2098 + (1 : Int32))) (lv' := [(1, .int (x1_37_2098 + (1 : Int32))), (0, .ref (adr a0)), (2, .int x2_47_2103)]) hx hb dX12_laysForms_139 hl (k := 1) rfl (congrArg (fun z => x1_37_2098 + z) (by decide)) (by decide) rfl (fun ls hl => ?_)
        refine lv_goto (tgt := 37) hx hb dX12_laysForms_142 (by decide) ?_
        exact ih37_2101 ((x1_37_2098 + (1 : Int32)), M47_2104) _ _ _ h ⟨hP, hS, lv_sub hl [1, 0] rfl⟩
      · rw [if_neg c52_2107] at h
        refine lv_bipush (v := (9 : Int32)) hx hb dX12_laysForms_55 (by decide) ?_
        refine lv_aload_n hx hb dX12_laysForms_57 rfl (lv_at hl 0 rfl) ?_
        refine sm_get (ci := 12) (C := RX12) (T := TX12) (N := 54) (v := .int (M47_2104 a0 1)) hx hb hts hin12 hown hE hP ha0 rfl rfl 1 (by decide) (hts (.fieldLink RX12 13 "OrderMoverModel" "powerA" "I") (by decide +kernel)) (fun _ h9 => h9) rfl dX12_laysForms_58 ?_
        refine lv_iload_n hx hb dX12_laysForms_61 rfl (lv_at hl 1 rfl) ?_
        refine lv_imul hx hb dX12_laysForms_62 ?_
        refine lv_iload_n hx hb dX12_laysForms_63 rfl (lv_at hl 2 rfl) ?_
        refine lv_iadd hx hb dX12_laysForms_64 ?_
        refine lv_imul hx hb dX12_laysForms_65 ?_
        refine lv_istore_n (lv' := [(3, .int ((9 : Int32) * (((M47_2104 a0 1) * x1_37_2098) + x2_47_2103))), (0, .ref (adr a0)), (1, .int x1_37_2098), (2, .int x2_47_2103)]) hx hb dX12_laysForms_66 rfl hl (by decide) rfl (fun ls hl => ?_)
        refine lv_iconst (v := (0 : Int32)) hx hb dX12_laysForms_67 (by decide) ?_
        refine lv_istore (lv' := [(4, .int (0 : Int32)), (3, .int ((9 : Int32) * (((M47_2104 a0 1) * x1_37_2098) + x2_47_2103))), (0, .ref (adr a0)), (1, .int x1_37_2098), (2, .int x2_47_2103)]) hx hb dX12_laysForms_68 hl (by decide) rfl (fun ls hl => ?_)
        refine sm_lp (b := fun rc q => m_X12_laysForms_b70 a0 x1_37_2098 x2_47_2103 ((9 : Int32) * (((M47_2104 a0 1) * x1_37_2098) + x2_47_2103)) rc2_2095 rc37_2100 rc47_2105 rc q.1 q.2) (P := fun (q : Int32 × smM) H locs ls => smP D cA 2 adr q.2 H ∧ va_S (smA 2 adr) s.heap H locs ∧ lv_has ls 5 [(0, .ref (adr a0)), (1, .int x1_37_2098), (2, .int x2_47_2103), (3, .int ((9 : Int32) * (((M47_2104 a0 1) * x1_37_2098) + x2_47_2103))), (4, .int q.1)]) (pc := 70) ?_ _ _ _ _ _ h ⟨hP, hS, lv_sub hl [2, 3, 4, 1, 0] rfl⟩
        intro rc70_2110 ih70_2111 q H locs ls h hI
        obtain ⟨x4_70_2108, M70_2109⟩ := q
        obtain ⟨hP, hS, hl⟩ := hI
        have hP : smP D cA 2 adr M70_2109 H := hP
        have hl : lv_has ls 5 [(0, .ref (adr a0)), (1, .int x1_37_2098), (2, .int x2_47_2103), (3, .int ((9 : Int32) * (((M47_2104 a0 1) * x1_37_2098) + x2_47_2103))), (4, .int x4_70_2108)] := hl
        have h : m_X12_laysForms_b70 a0 x1_37_2098 x2_47_2103 ((9 : Int32) * (((M47_2104 a0 1) * x1_37_2098) + x2_47_2103)) rc2_2095 rc37_2100 rc47_2105 rc70_2110 x4_70_2108 M70_2109 = some _ := h
        unfold m_X12_laysForms_b70 at h
        refine lv_iload hx hb dX12_laysForms_70 (lv_at hl 4 rfl) ?_
        refine lv_bipush (v := (9 : Int32)) hx hb dX12_laysForms_72 (by decide) ?_
        refine lv_icmp_ge (tgt := 133) hx hb dX12_laysForms_74 (by decide) (fun c74_2112 => ?_) (fun c74_2112 => ?_)
        · rw [if_pos c74_2112] at h
          refine lv_iinc (v := (x2_47_2103 + (1 : Int32))) (lv' := [(2, .int (x2_47_2103 + (1 : Int32))), (0, .ref (adr a0)), (1, .int x1_37_2098), (3, .int ((9 : Int32) * (((M47_2104 a0 1) * x1_37_2098) + x2_47_2103))), (4, .int x4_70_2108)]) hx hb dX12_laysForms_133 hl (k := 2) rfl (congrArg (fun z => x2_47_2103 + z) (by decide)) (by decide) rfl (fun ls hl => ?_)
          refine lv_goto (tgt := 47) hx hb dX12_laysForms_136 (by decide) ?_
          exact ih47_2106 ((x2_47_2103 + (1 : Int32)), M70_2109) _ _ _ h ⟨hP, hS, lv_sub hl [1, 2, 0] rfl⟩
        · rw [if_neg c74_2112] at h
          refine lv_aload_n hx hb dX12_laysForms_77 rfl (lv_at hl 0 rfl) ?_
          refine sm_get (ci := 12) (C := RX12) (T := TX12) (N := 54) (v := .ref (adr (a0 + 16))) hx hb hts hin12 hown hE hP ha0 rfl rfl 20 (by decide) (hts (.fieldLink RX12 72 "OrderMoverModel" "byX" "[I") (by decide +kernel)) (fun _ h9 => h9) rfl dX12_laysForms_78 ?_
          refine lv_iload_n hx hb dX12_laysForms_81 rfl (lv_at hl 3 rfl) ?_
          refine lv_iload hx hb dX12_laysForms_82 (lv_at hl 4 rfl) ?_
          refine lv_iadd hx hb dX12_laysForms_84 ?_
          refine lv_aload_n hx hb dX12_laysForms_85 rfl (lv_at hl 0 rfl) ?_
          refine sm_get (ci := 12) (C := RX12) (T := TX12) (N := 54) (v := .ref (adr (a0 + 15))) hx hb hts hin12 hown hE hP ha0 rfl rfl 19 (by decide) (hts (.fieldLink RX12 69 "OrderMoverModel" "forms" "[I") (by decide +kernel)) (fun _ h9 => h9) rfl dX12_laysForms_86 ?_
          refine lv_aload_n hx hb dX12_laysForms_89 rfl (lv_at hl 0 rfl) ?_
          refine lv_iload_n hx hb dX12_laysForms_90 rfl (lv_at hl 2 rfl) ?_
          refine lv_iconst (v := (1 : Int32)) hx hb dX12_laysForms_91 (by decide) ?_
          refine lv_iadd hx hb dX12_laysForms_92 ?_
          refine lv_iload_n hx hb dX12_laysForms_93 rfl (lv_at hl 1 rfl) ?_
          obtain ⟨v94_2113, hc94_2115, h⟩ := sm_bd h
          refine sm_ci (va_runV (As := [.int (x2_47_2103 + (1 : Int32)), .int x1_37_2098]) (rest := [.ref (adr (a0 + 15)), .int (((9 : Int32) * (((M47_2104 a0 1) * x1_37_2098) + x2_47_2103)) + x4_70_2108), .ref (adr (a0 + 16))]) ⟨hx, hb, hml, hown, hts⟩ (k_X12_formAt l D cA adr hJ a0 (x2_47_2103 + (1 : Int32)) x1_37_2098 ha0 M70_2109 v94_2113 hc94_2115) (cwV 2 hts gX12_laysForms_X12_formAt rfl rfl rfl (by decide +kernel) ⟨Nat.le_of_ble_eq_true rfl, Nat.le_of_ble_eq_true rfl⟩) ⟨smPc_bl, smRv hE hP ha0 rfl (ci := 12) (q := (RX12, TX12, 54)) rfl, smPc_in [.ref (adr a0), .int (x2_47_2103 + (1 : Int32)), .int x1_37_2098] hE hP⟩ rfl rfl hl.1 rfl (lv_room (Nat.le_of_ble_eq_true rfl)) dX12_laysForms_94 ⟨Nat.zero_le _, Nat.zero_le _⟩) hS (fun H locs hP hS => ?_)
          refine lv_iload hx hb dX12_laysForms_97 (lv_at hl 4 rfl) ?_
          refine lv_iadd hx hb dX12_laysForms_99 ?_
          obtain ⟨c100_2116, h⟩ := sm_ck h
          refine sm_iald hx hb hE hP (t12_19 ha0) c100_2116 dX12_laysForms_100 ?_
          obtain ⟨c101_2117, h⟩ := sm_ck h
          refine sm_iast hx hb hE hJ hP hS (t12_20 ha0) c101_2117 dX12_laysForms_101 (fun H locs hP hS => ?_)
          obtain ⟨M101_2118, hM, h⟩ := sm_lt h
          rw [← hM] at hP; clear hM
          refine lv_aload_n hx hb dX12_laysForms_102 rfl (lv_at hl 0 rfl) ?_
          refine sm_get (ci := 12) (C := RX12) (T := TX12) (N := 54) (v := .ref (adr (a0 + 17))) hx hb hts hin12 hown hE hP ha0 rfl rfl 21 (by decide) (hts (.fieldLink RX12 75 "OrderMoverModel" "byY" "[I") (by decide +kernel)) (fun _ h9 => h9) rfl dX12_laysForms_103 ?_
          refine lv_iload_n hx hb dX12_laysForms_106 rfl (lv_at hl 3 rfl) ?_
          refine lv_iload hx hb dX12_laysForms_107 (lv_at hl 4 rfl) ?_
          refine lv_iadd hx hb dX12_laysForms_109 ?_
          refine lv_aload_n hx hb dX12_laysForms_110 rfl (lv_at hl 0 rfl) ?_
          refine sm_get (ci := 12) (C := RX12) (T := TX12) (N := 54) (v := .ref (adr (a0 + 15))) hx hb hts hin12 hown hE hP ha0 rfl rfl 19 (by decide) (hts (.fieldLink RX12 69 "OrderMoverModel" "forms" "[I") (by decide +kernel)) (fun _ h9 => h9) rfl dX12_laysForms_111 ?_
          refine lv_aload_n hx hb dX12_laysForms_114 rfl (lv_at hl 0 rfl) ?_
          refine lv_iload_n hx hb dX12_laysForms_115 rfl (lv_at hl 2 rfl) ?_
          refine lv_iload_n hx hb dX12_laysForms_116 rfl (lv_at hl 1 rfl) ?_
          refine lv_iconst (v := (1 : Int32)) hx hb dX12_laysForms_117 (by decide) ?_
          refine lv_iadd hx hb dX12_laysForms_118 ?_
          obtain ⟨v119_2119, hc119_2121, h⟩ := sm_bd h
          refine sm_ci (va_runV (As := [.int x2_47_2103, .int (x1_37_2098 + (1 : Int32))]) (rest := [.ref (adr (a0 + 15)), .int (((9 : Int32) * (((M47_2104 a0 1) * x1_37_2098) + x2_47_2103)) + x4_70_2108), .ref (adr (a0 + 17))]) ⟨hx, hb, hml, hown, hts⟩ (k_X12_formAt l D cA adr hJ a0 x2_47_2103 (x1_37_2098 + (1 : Int32)) ha0 M101_2118 v119_2119 hc119_2121) (cwV 2 hts gX12_laysForms_X12_formAt rfl rfl rfl (by decide +kernel) ⟨Nat.le_of_ble_eq_true rfl, Nat.le_of_ble_eq_true rfl⟩) ⟨smPc_bl, smRv hE hP ha0 rfl (ci := 12) (q := (RX12, TX12, 54)) rfl, smPc_in [.ref (adr a0), .int x2_47_2103, .int (x1_37_2098 + (1 : Int32))] hE hP⟩ rfl rfl hl.1 rfl (lv_room (Nat.le_of_ble_eq_true rfl)) dX12_laysForms_119 ⟨Nat.zero_le _, Nat.zero_le _⟩) hS (fun H locs hP hS => ?_)
          refine lv_iload hx hb dX12_laysForms_122 (lv_at hl 4 rfl) ?_
          refine lv_iadd hx hb dX12_laysForms_124 ?_
          obtain ⟨c125_2122, h⟩ := sm_ck h
          refine sm_iald hx hb hE hP (t12_19 ha0) c125_2122 dX12_laysForms_125 ?_
          obtain ⟨c126_2123, h⟩ := sm_ck h
          refine sm_iast hx hb hE hJ hP hS (t12_21 ha0) c126_2123 dX12_laysForms_126 (fun H locs hP hS => ?_)
          obtain ⟨M126_2124, hM, h⟩ := sm_lt h
          rw [← hM] at hP; clear hM
          refine lv_iinc (v := (x4_70_2108 + (1 : Int32))) (lv' := [(4, .int (x4_70_2108 + (1 : Int32))), (0, .ref (adr a0)), (1, .int x1_37_2098), (2, .int x2_47_2103), (3, .int ((9 : Int32) * (((M47_2104 a0 1) * x1_37_2098) + x2_47_2103)))]) hx hb dX12_laysForms_127 hl (k := 4) rfl (congrArg (fun z => x4_70_2108 + z) (by decide)) (by decide) rfl (fun ls hl => ?_)
          refine lv_goto (tgt := 70) hx hb dX12_laysForms_130 (by decide) ?_
          exact ih70_2111 ((x4_70_2108 + (1 : Int32)), M126_2124) _ _ _ h ⟨hP, hS, lv_sub hl [1, 2, 3, 4, 0] rfl⟩
  · rw [if_neg c5_2097] at h
    refine lv_iconst (v := (0 : Int32)) hx hb dX12_laysForms_8 (by decide) ?_
    refine lv_istore_n (lv' := [(2, .int (0 : Int32)), (0, .ref (adr a0)), (1, .int x1_2_2093)]) hx hb dX12_laysForms_9 rfl hl (by decide) rfl (fun ls hl => ?_)
    refine sm_lp (b := fun rc q => m_X12_laysForms_b10 a0 x1_2_2093 rc2_2095 rc q.1 q.2) (P := fun (q : Int32 × smM) H locs ls => smP D cA 2 adr q.2 H ∧ va_S (smA 2 adr) s.heap H locs ∧ lv_has ls 5 [(0, .ref (adr a0)), (1, .int x1_2_2093), (2, .int q.1)]) (pc := 10) ?_ _ _ _ _ _ h ⟨hP, hS, lv_sub hl [1, 2, 0] rfl⟩
    intro rc10_2127 ih10_2128 q H locs ls h hI
    obtain ⟨x2_10_2125, M10_2126⟩ := q
    obtain ⟨hP, hS, hl⟩ := hI
    have hP : smP D cA 2 adr M10_2126 H := hP
    have hl : lv_has ls 5 [(0, .ref (adr a0)), (1, .int x1_2_2093), (2, .int x2_10_2125)] := hl
    have h : m_X12_laysForms_b10 a0 x1_2_2093 rc2_2095 rc10_2127 x2_10_2125 M10_2126 = some _ := h
    unfold m_X12_laysForms_b10 at h
    refine lv_iload_n hx hb dX12_laysForms_10 rfl (lv_at hl 2 rfl) ?_
    refine lv_iload_n hx hb dX12_laysForms_11 rfl (lv_at hl 1 rfl) ?_
    refine lv_icmp_gt (tgt := 29) hx hb dX12_laysForms_12 (by decide) (fun c12_2129 => ?_) (fun c12_2129 => ?_)
    · rw [if_pos c12_2129] at h
      refine lv_iinc (v := (x1_2_2093 + (1 : Int32))) (lv' := [(1, .int (x1_2_2093 + (1 : Int32))), (0, .ref (adr a0)), (2, .int x2_10_2125)]) hx hb dX12_laysForms_29 hl (k := 1) rfl (congrArg (fun z => x1_2_2093 + z) (by decide)) (by decide) rfl (fun ls hl => ?_)
      refine lv_goto (tgt := 2) hx hb dX12_laysForms_32 (by decide) ?_
      exact ih2_2096 ((x1_2_2093 + (1 : Int32)), M10_2126) _ _ _ h ⟨hP, hS, lv_sub hl [1, 0] rfl⟩
    · rw [if_neg c12_2129] at h
      refine lv_aload_n hx hb dX12_laysForms_15 rfl (lv_at hl 0 rfl) ?_
      refine lv_iload_n hx hb dX12_laysForms_16 rfl (lv_at hl 2 rfl) ?_
      refine lv_iload_n hx hb dX12_laysForms_17 rfl (lv_at hl 1 rfl) ?_
      refine lv_iload_n hx hb dX12_laysForms_18 rfl (lv_at hl 2 rfl) ?_
      refine lv_isub hx hb dX12_laysForms_19 ?_
      obtain ⟨M20_2131, hc20_2132, h⟩ := sm_bd h
      refine sm_cv (va_runV (As := [.int x2_10_2125, .int (x1_2_2093 - x2_10_2125)]) (rest := []) ⟨hx, hb, hml, hown, hts⟩ (k_X12_laysForm l D cA adr hJ a0 x2_10_2125 (x1_2_2093 - x2_10_2125) ha0 M10_2126 M20_2131 hc20_2132) (cwV 2 hts gX12_laysForms_X12_laysForm rfl rfl rfl (by decide +kernel) ⟨Nat.le_of_ble_eq_true rfl, Nat.le_of_ble_eq_true rfl⟩) ⟨smPc_bl, smRv hE hP ha0 rfl (ci := 12) (q := (RX12, TX12, 54)) rfl, smPc_in [.ref (adr a0), .int x2_10_2125, .int (x1_2_2093 - x2_10_2125)] hE hP⟩ rfl rfl hl.1 rfl (lv_room (Nat.le_of_ble_eq_true rfl)) dX12_laysForms_20 ⟨Nat.zero_le _, Nat.zero_le _⟩) hS (fun H locs hP hS => ?_)
      refine lv_iinc (v := (x2_10_2125 + (1 : Int32))) (lv' := [(2, .int (x2_10_2125 + (1 : Int32))), (0, .ref (adr a0)), (1, .int x1_2_2093)]) hx hb dX12_laysForms_23 hl (k := 2) rfl (congrArg (fun z => x2_10_2125 + z) (by decide)) (by decide) rfl (fun ls hl => ?_)
      refine lv_goto (tgt := 10) hx hb dX12_laysForms_26 (by decide) ?_
      exact ih10_2128 ((x2_10_2125 + (1 : Int32)), M20_2131) _ _ _ h ⟨hP, hS, lv_sub hl [1, 2, 0] rfl⟩
set_option maxHeartbeats 4000000 in
set_option maxRecDepth 100000 in
theorem k_X12_leadsNow (l : Launch) (D : va_G) (cA : Nat → ClassId) (adr : Nat → Nat) (hJ : smJ 2 adr) (a0 : Nat) (x1 : Int32) (x2 : Int32) (ha0 : smT 2 a0 12) (M : smM) (M1 : smM) (h : m_X12_leadsNow a0 x1 x2 M = some M1) : Met l yX12_leadsNow wsX12_leadsNow ({ frames := 0, cells := 0, slots := 0, locals := 0 }) (smPc D cA 2 adr M [.ref (adr a0), .int x1, .int x2]) (smQv D cA 2 adr M1) 0 0 (smA 2 adr) := by
  refine Met.ofW (cc := cX12_leadsNow) (maxL := 4) (ret := none) (by decide) rfl ?_
  intro p e s m args below meth c s₁ B hml hv
  obtain ⟨rfl, hE, hP⟩ := hv
  have hx := B.exec
  have hb := B.bytes
  have hr := B.returns
  have hts := atoms_spec (ws := wsX12_leadsNow) B.pre
  have hown : s.vm.findClass RX12 = some m.cls := findClass_of_methodNamed B.named
  have hlocks := B.notSynchronized
  have hS : va_S (smA 2 adr) s.heap s.heap [] := va_S.rf
  have hP : smP D cA 2 adr M s.heap := hP
  have hl := lv_entry ([.ref (adr a0), .int x1, .int x2]) (n := 4) (Nat.le_of_ble_eq_true rfl)
  rw [lg_entry_eq]
  generalize (lg_sl ([.ref (adr a0), .int x1, .int x2]) ++ List.replicate (4 - (lg_sl ([.ref (adr a0), .int x1, .int x2])).length) Slot.unset).toArray = ls at hl ⊢
  have hl : lv_has ls 4 [(0, .ref (adr a0)), (1, .int x1), (2, .int x2)] := hl
  unfold m_X12_leadsNow at h
  have hin12 : ∀ w ∈ u_ws RX12 TX12 54, w ∈ wsX12_leadsNow := by decide +kernel
  refine lv_aload_n hx hb dX12_leadsNow_0 rfl (lv_at hl 0 rfl) ?_
  refine sm_get (ci := 12) (C := RX12) (T := TX12) (N := 54) (v := .ref (adr (a0 + 26))) hx hb hts hin12 hown hE hP ha0 rfl rfl 35 (by decide) (hts (.fieldLink RX12 102 "OrderMoverModel" "memberI" "[I") (by decide +kernel)) (fun _ h9 => h9) rfl dX12_leadsNow_1 ?_
  refine lv_aload_n hx hb dX12_leadsNow_4 rfl (lv_at hl 0 rfl) ?_
  refine sm_get (ci := 12) (C := RX12) (T := TX12) (N := 54) (v := .int (M a0 34)) hx hb hts hin12 hown hE hP ha0 rfl rfl 34 (by decide) (hts (.fieldLink RX12 230 "OrderMoverModel" "members" "I") (by decide +kernel)) (fun _ h9 => h9) rfl dX12_leadsNow_5 ?_
  refine lv_iload_n hx hb dX12_leadsNow_8 rfl (lv_at hl 1 rfl) ?_
  obtain ⟨c9_2133, h⟩ := sm_ck h
  refine sm_iast hx hb hE hJ hP hS (t12_35 ha0) c9_2133 dX12_leadsNow_9 (fun H locs hP hS => ?_)
  obtain ⟨M9_2134, hM, h⟩ := sm_lt h
  rw [← hM] at hP; clear hM
  refine lv_aload_n hx hb dX12_leadsNow_10 rfl (lv_at hl 0 rfl) ?_
  refine sm_get (ci := 12) (C := RX12) (T := TX12) (N := 54) (v := .ref (adr (a0 + 27))) hx hb hts hin12 hown hE hP ha0 rfl rfl 36 (by decide) (hts (.fieldLink RX12 105 "OrderMoverModel" "memberJ" "[I") (by decide +kernel)) (fun _ h9 => h9) rfl dX12_leadsNow_11 ?_
  refine lv_aload_n hx hb dX12_leadsNow_14 rfl (lv_at hl 0 rfl) ?_
  refine sm_get (ci := 12) (C := RX12) (T := TX12) (N := 54) (v := .int (M9_2134 a0 34)) hx hb hts hin12 hown hE hP ha0 rfl rfl 34 (by decide) (hts (.fieldLink RX12 230 "OrderMoverModel" "members" "I") (by decide +kernel)) (fun _ h9 => h9) rfl dX12_leadsNow_15 ?_
  refine lv_iload_n hx hb dX12_leadsNow_18 rfl (lv_at hl 2 rfl) ?_
  obtain ⟨c19_2135, h⟩ := sm_ck h
  refine sm_iast hx hb hE hJ hP hS (t12_36 ha0) c19_2135 dX12_leadsNow_19 (fun H locs hP hS => ?_)
  obtain ⟨M19_2136, hM, h⟩ := sm_lt h
  rw [← hM] at hP; clear hM
  refine lv_iconst (v := (0 : Int32)) hx hb dX12_leadsNow_20 (by decide) ?_
  refine lv_istore_n (lv' := [(3, .int (0 : Int32)), (0, .ref (adr a0)), (1, .int x1), (2, .int x2)]) hx hb dX12_leadsNow_21 rfl hl (by decide) rfl (fun ls hl => ?_)
  refine sm_lp (b := fun rc q => m_X12_leadsNow_b22 a0 rc q.1 q.2) (P := fun (q : Int32 × smM) H locs ls => smP D cA 2 adr q.2 H ∧ va_S (smA 2 adr) s.heap H locs ∧ lv_has ls 4 [(0, .ref (adr a0)), (3, .int q.1)]) (pc := 22) ?_ _ _ _ _ _ h ⟨hP, hS, lv_sub hl [1, 0] rfl⟩
  intro rc22_2139 ih22_2140 q H locs ls h hI
  obtain ⟨x3_22_2137, M22_2138⟩ := q
  obtain ⟨hP, hS, hl⟩ := hI
  have hP : smP D cA 2 adr M22_2138 H := hP
  have hl : lv_has ls 4 [(0, .ref (adr a0)), (3, .int x3_22_2137)] := hl
  have h : m_X12_leadsNow_b22 a0 rc22_2139 x3_22_2137 M22_2138 = some _ := h
  unfold m_X12_leadsNow_b22 at h
  refine lv_iload_n hx hb dX12_leadsNow_22 rfl (lv_at hl 1 rfl) ?_
  refine lv_bipush (v := (9 : Int32)) hx hb dX12_leadsNow_23 (by decide) ?_
  refine lv_icmp_ge (tgt := 54) hx hb dX12_leadsNow_25 (by decide) (fun c25_2141 => ?_) (fun c25_2141 => ?_)
  · rw [if_pos c25_2141] at h
    refine lv_aload_n hx hb dX12_leadsNow_54 rfl (lv_at hl 0 rfl) ?_
    refine lv_dup hx hb dX12_leadsNow_55 rfl ?_
    refine sm_get (ci := 12) (C := RX12) (T := TX12) (N := 54) (v := .int (M22_2138 a0 34)) hx hb hts hin12 hown hE hP ha0 rfl rfl 34 (by decide) (hts (.fieldLink RX12 230 "OrderMoverModel" "members" "I") (by decide +kernel)) (fun _ h9 => h9) rfl dX12_leadsNow_56 ?_
    refine lv_iconst (v := (1 : Int32)) hx hb dX12_leadsNow_59 (by decide) ?_
    refine lv_iadd hx hb dX12_leadsNow_60 ?_
    refine sm_put (ci := 12) (C := RX12) (T := TX12) (N := 54) (ty := .int) hx hb hts hin12 tyX12 tyX12_ok nmX12 hown hE hJ hP hS ha0 rfl rfl 34 (by decide) (hts (.fieldLink RX12 230 "OrderMoverModel" "members" "I") (by decide +kernel)) (fun _ h9 => h9) rfl (by decide +kernel) rfl rfl (Nat.le_of_ble_eq_true rfl) rfl dX12_leadsNow_61 (fun H locs hP hS => ?_)
    obtain ⟨M61_2142, hM, h⟩ := sm_lt h
    rw [← hM] at hP; clear hM
    cases h
    exact sm_vret hx hb hr hlocks hP hS dX12_leadsNow_64
  · rw [if_neg c25_2141] at h
    refine lv_aload_n hx hb dX12_leadsNow_28 rfl (lv_at hl 0 rfl) ?_
    refine sm_get (ci := 12) (C := RX12) (T := TX12) (N := 54) (v := .ref (adr (a0 + 28))) hx hb hts hin12 hown hE hP ha0 rfl rfl 37 (by decide) (hts (.fieldLink RX12 108 "OrderMoverModel" "tails" "[I") (by decide +kernel)) (fun _ h9 => h9) rfl dX12_leadsNow_29 ?_
    refine lv_bipush (v := (9 : Int32)) hx hb dX12_leadsNow_32 (by decide) ?_
    refine lv_aload_n hx hb dX12_leadsNow_34 rfl (lv_at hl 0 rfl) ?_
    refine sm_get (ci := 12) (C := RX12) (T := TX12) (N := 54) (v := .int (M22_2138 a0 34)) hx hb hts hin12 hown hE hP ha0 rfl rfl 34 (by decide) (hts (.fieldLink RX12 230 "OrderMoverModel" "members" "I") (by decide +kernel)) (fun _ h9 => h9) rfl dX12_leadsNow_35 ?_
    refine lv_imul hx hb dX12_leadsNow_38 ?_
    refine lv_iload_n hx hb dX12_leadsNow_39 rfl (lv_at hl 1 rfl) ?_
    refine lv_iadd hx hb dX12_leadsNow_40 ?_
    refine lv_aload_n hx hb dX12_leadsNow_41 rfl (lv_at hl 0 rfl) ?_
    refine sm_get (ci := 12) (C := RX12) (T := TX12) (N := 54) (v := .ref (adr (a0 + 31))) hx hb hts hin12 hown hE hP ha0 rfl rfl 41 (by decide) (hts (.fieldLink RX12 117 "OrderMoverModel" "made" "[I") (by decide +kernel)) (fun _ h9 => h9) rfl dX12_leadsNow_42 ?_
    refine lv_iload_n hx hb dX12_leadsNow_45 rfl (lv_at hl 1 rfl) ?_
    obtain ⟨c46_2143, h⟩ := sm_ck h
    refine sm_iald hx hb hE hP (t12_41 ha0) c46_2143 dX12_leadsNow_46 ?_
    obtain ⟨c47_2144, h⟩ := sm_ck h
    refine sm_iast hx hb hE hJ hP hS (t12_37 ha0) c47_2144 dX12_leadsNow_47 (fun H locs hP hS => ?_)
    obtain ⟨M47_2145, hM, h⟩ := sm_lt h
    rw [← hM] at hP; clear hM
    refine lv_iinc (v := (x3_22_2137 + (1 : Int32))) (lv' := [(3, .int (x3_22_2137 + (1 : Int32))), (0, .ref (adr a0))]) hx hb dX12_leadsNow_48 hl (k := 1) rfl (congrArg (fun z => x3_22_2137 + z) (by decide)) (by decide) rfl (fun ls hl => ?_)
    refine lv_goto (tgt := 22) hx hb dX12_leadsNow_51 (by decide) ?_
    exact ih22_2140 ((x3_22_2137 + (1 : Int32)), M47_2145) _ _ _ h ⟨hP, hS, lv_sub hl [1, 0] rfl⟩
set_option maxHeartbeats 4000000 in
set_option maxRecDepth 100000 in
theorem k_X12_by (l : Launch) (D : va_G) (cA : Nat → ClassId) (adr : Nat → Nat) (hJ : smJ 2 adr) (x0 : Int32) (z1 : Int64) (z3 : Int64) (x5 : Int32) (x6 : Int32) (M : smM) (v1 : Int64) (h : m_X12_by x0 z1 z3 x5 x6 M = some v1) : Met l yX12_by wsX12_by ({ frames := 0, cells := 0, slots := 0, locals := 0 }) (smPc D cA 2 adr M [.int x0, .long z1, .long z3, .int x5, .int x6]) (smQl D cA 2 adr M v1) 0 0 (smA 2 adr) := by
  refine Met.ofW (cc := cX12_by) (maxL := 7) (ret := (some .long)) (by decide) rfl ?_
  intro p e s m args below meth c s₁ B hml hv
  obtain ⟨rfl, hE, hP⟩ := hv
  have hx := B.exec
  have hb := B.bytes
  have hr := B.returns
  have hts := atoms_spec (ws := wsX12_by) B.pre
  have hown : s.vm.findClass RX12 = some m.cls := findClass_of_methodNamed B.named
  have hlocks := B.notSynchronized
  have hS : va_S (smA 2 adr) s.heap s.heap [] := va_S.rf
  have hP : smP D cA 2 adr M s.heap := hP
  have hl := lv_entry ([.int x0, .long z1, .long z3, .int x5, .int x6]) (n := 7) (Nat.le_of_ble_eq_true rfl)
  rw [lg_entry_eq]
  generalize (lg_sl ([.int x0, .long z1, .long z3, .int x5, .int x6]) ++ List.replicate (7 - (lg_sl ([.int x0, .long z1, .long z3, .int x5, .int x6])).length) Slot.unset).toArray = ls at hl ⊢
  have hl : lv_has ls 7 [(0, .int x0), (1, .long z1), (3, .long z3), (5, .int x5), (6, .int x6)] := hl
  unfold m_X12_by at h
  refine lv_iload_n hx hb dX12_by_0 rfl (lv_at hl 0 rfl) ?_
  refine lv_if_ne (tgt := 8) hx hb dX12_by_1 (by decide) (fun c1_2146 => ?_) (fun c1_2146 => ?_)
  · rw [if_neg c1_2146] at h
    refine lv_iload_n hx hb dX12_by_8 rfl (lv_at hl 0 rfl) ?_
    refine lv_iconst (v := (1 : Int32)) hx hb dX12_by_9 (by decide) ?_
    refine lv_icmp_ne (tgt := 17) hx hb dX12_by_10 (by decide) (fun c10_2147 => ?_) (fun c10_2147 => ?_)
    · rw [if_neg c10_2147] at h
      refine lv_iload_n hx hb dX12_by_17 rfl (lv_at hl 0 rfl) ?_
      refine lv_iconst (v := (4 : Int32)) hx hb dX12_by_18 (by decide) ?_
      refine lv_icmp_ne (tgt := 36) hx hb dX12_by_19 (by decide) (fun c19_2148 => ?_) (fun c19_2148 => ?_)
      · rw [if_neg c19_2148] at h
        refine lv_lload_n hx hb dX12_by_36 rfl (lv_at hl 1 rfl) ?_
        refine lv_lload_n hx hb dX12_by_37 rfl (lv_at hl 2 rfl) ?_
        refine lv_ladd hx hb dX12_by_38 ?_
        cases h
        exact sm_lret hx hb hr hlocks hP hS dX12_by_39
      · rw [if_pos c19_2148] at h
        refine lv_iload hx hb dX12_by_22 (lv_at hl 3 rfl) ?_
        refine lv_i2l hx hb dX12_by_24 rfl ?_
        refine lv_lload_n hx hb dX12_by_25 rfl (lv_at hl 1 rfl) ?_
        refine lv_lmul hx hb dX12_by_26 ?_
        refine lv_iload hx hb dX12_by_27 (lv_at hl 4 rfl) ?_
        refine lv_i2l hx hb dX12_by_29 rfl ?_
        refine lv_lload_n hx hb dX12_by_30 rfl (lv_at hl 2 rfl) ?_
        refine lv_lmul hx hb dX12_by_31 ?_
        refine lv_ladd hx hb dX12_by_32 ?_
        refine lv_goto (tgt := 39) hx hb dX12_by_33 (by decide) ?_
        cases h
        exact sm_lret hx hb hr hlocks hP hS dX12_by_39
    · rw [if_pos c10_2147] at h
      refine lv_lload_n hx hb dX12_by_13 rfl (lv_at hl 2 rfl) ?_
      refine lv_goto (tgt := 39) hx hb dX12_by_14 (by decide) ?_
      cases h
      exact sm_lret hx hb hr hlocks hP hS dX12_by_39
  · rw [if_pos c1_2146] at h
    refine lv_lload_n hx hb dX12_by_4 rfl (lv_at hl 1 rfl) ?_
    refine lv_goto (tgt := 39) hx hb dX12_by_5 (by decide) ?_
    cases h
    exact sm_lret hx hb hr hlocks hP hS dX12_by_39
set_option maxHeartbeats 4000000 in
set_option maxRecDepth 100000 in
theorem k_X12_isLess (l : Launch) (D : va_G) (cA : Nat → ClassId) (adr : Nat → Nat) (hJ : smJ 2 adr) (a0 : Nat) (x1 : Int32) (x2 : Int32) (x3 : Int32) (x4 : Int32) (ha0 : smT 2 a0 12) (M : smM) (v1 : Int32) (h : m_X12_isLess a0 x1 x2 x3 x4 M = some v1) : Met l yX12_isLess wsX12_isLess ({ frames := 1, cells := 0, slots := 0, locals := 26 }) (smPc D cA 2 adr M [.ref (adr a0), .int x1, .int x2, .int x3, .int x4]) (smQi D cA 2 adr M v1) 0 0 (smA 2 adr) := by
  refine Met.ofW (cc := cX12_isLess) (maxL := 9) (ret := (some .boolean)) (by decide) rfl ?_
  intro p e s m args below meth c s₁ B hml hv
  obtain ⟨rfl, hE, hP⟩ := hv
  have hx := B.exec
  have hb := B.bytes
  have hr := B.returns
  have hts := atoms_spec (ws := wsX12_isLess) B.pre
  have hown : s.vm.findClass RX12 = some m.cls := findClass_of_methodNamed B.named
  have hlocks := B.notSynchronized
  have hS : va_S (smA 2 adr) s.heap s.heap [] := va_S.rf
  have hP : smP D cA 2 adr M s.heap := hP
  have hl := lv_entry ([.ref (adr a0), .int x1, .int x2, .int x3, .int x4]) (n := 9) (Nat.le_of_ble_eq_true rfl)
  rw [lg_entry_eq]
  generalize (lg_sl ([.ref (adr a0), .int x1, .int x2, .int x3, .int x4]) ++ List.replicate (9 - (lg_sl ([.ref (adr a0), .int x1, .int x2, .int x3, .int x4])).length) Slot.unset).toArray = ls at hl ⊢
  have hl : lv_has ls 9 [(0, .ref (adr a0)), (1, .int x1), (2, .int x2), (3, .int x3), (4, .int x4)] := hl
  unfold m_X12_isLess at h
  have hin12 : ∀ w ∈ u_ws RX12 TX12 54, w ∈ wsX12_isLess := by decide +kernel
  refine lv_aload_n hx hb dX12_isLess_0 rfl (lv_at hl 0 rfl) ?_
  refine sm_get (ci := 12) (C := RX12) (T := TX12) (N := 54) (v := .int (M a0 26)) hx hb hts hin12 hown hE hP ha0 rfl rfl 26 (by decide) (hts (.fieldLink RX12 207 "OrderMoverModel" "orderNow" "I") (by decide +kernel)) (fun _ h9 => h9) rfl dX12_isLess_1 ?_
  refine lv_iload_n hx hb dX12_isLess_4 rfl (lv_at hl 1 rfl) ?_
  refine lv_i2l hx hb dX12_isLess_5 rfl ?_
  refine lv_iload_n hx hb dX12_isLess_6 rfl (lv_at hl 2 rfl) ?_
  refine lv_i2l hx hb dX12_isLess_7 rfl ?_
  refine lv_aload_n hx hb dX12_isLess_8 rfl (lv_at hl 0 rfl) ?_
  refine sm_get (ci := 12) (C := RX12) (T := TX12) (N := 54) (v := .int (M a0 27)) hx hb hts hin12 hown hE hP ha0 rfl rfl 27 (by decide) (hts (.fieldLink RX12 210 "OrderMoverModel" "uNow" "I") (by decide +kernel)) (fun _ h9 => h9) rfl dX12_isLess_9 ?_
  refine lv_aload_n hx hb dX12_isLess_12 rfl (lv_at hl 0 rfl) ?_
  refine sm_get (ci := 12) (C := RX12) (T := TX12) (N := 54) (v := .int (M a0 28)) hx hb hts hin12 hown hE hP ha0 rfl rfl 28 (by decide) (hts (.fieldLink RX12 213 "OrderMoverModel" "vNow" "I") (by decide +kernel)) (fun _ h9 => h9) rfl dX12_isLess_13 ?_
  obtain ⟨v16_2149, hc16_2151, h⟩ := sm_bd h
  refine sm_cl (va_runS (As := [.int (M a0 26), .long ((x1).toInt64), .long ((x2).toInt64), .int (M a0 27), .int (M a0 28)]) (rest := []) ⟨hx, hb, hml, hown, hts⟩ (k_X12_by l D cA adr hJ (M a0 26) ((x1).toInt64) ((x2).toInt64) (M a0 27) (M a0 28)  M v16_2149 hc16_2151) (va_cwS 5 hts gX12_isLess_X12_by rfl rfl rfl (by decide +kernel) ⟨Nat.le_of_ble_eq_true rfl, Nat.le_of_ble_eq_true rfl⟩) ⟨smPc_bl, smPc_in [.int (M a0 26), .long ((x1).toInt64), .long ((x2).toInt64), .int (M a0 27), .int (M a0 28)] hE hP⟩ rfl rfl hl.1 rfl (lv_room (Nat.le_of_ble_eq_true rfl)) dX12_isLess_16 ⟨Nat.zero_le _, Nat.zero_le _⟩) hS (fun H locs hP hS => ?_)
  refine lv_lstore (lv' := [(5, .long v16_2149), (0, .ref (adr a0)), (1, .int x1), (2, .int x2), (3, .int x3), (4, .int x4)]) hx hb dX12_isLess_19 hl (by decide) rfl (fun ls hl => ?_)
  refine lv_aload_n hx hb dX12_isLess_21 rfl (lv_at hl 1 rfl) ?_
  refine sm_get (ci := 12) (C := RX12) (T := TX12) (N := 54) (v := .int (M a0 26)) hx hb hts hin12 hown hE hP ha0 rfl rfl 26 (by decide) (hts (.fieldLink RX12 207 "OrderMoverModel" "orderNow" "I") (by decide +kernel)) (fun _ h9 => h9) rfl dX12_isLess_22 ?_
  refine lv_iload_n hx hb dX12_isLess_25 rfl (lv_at hl 4 rfl) ?_
  refine lv_i2l hx hb dX12_isLess_26 rfl ?_
  refine lv_iload hx hb dX12_isLess_27 (lv_at hl 5 rfl) ?_
  refine lv_i2l hx hb dX12_isLess_29 rfl ?_
  refine lv_aload_n hx hb dX12_isLess_30 rfl (lv_at hl 1 rfl) ?_
  refine sm_get (ci := 12) (C := RX12) (T := TX12) (N := 54) (v := .int (M a0 27)) hx hb hts hin12 hown hE hP ha0 rfl rfl 27 (by decide) (hts (.fieldLink RX12 210 "OrderMoverModel" "uNow" "I") (by decide +kernel)) (fun _ h9 => h9) rfl dX12_isLess_31 ?_
  refine lv_aload_n hx hb dX12_isLess_34 rfl (lv_at hl 1 rfl) ?_
  refine sm_get (ci := 12) (C := RX12) (T := TX12) (N := 54) (v := .int (M a0 28)) hx hb hts hin12 hown hE hP ha0 rfl rfl 28 (by decide) (hts (.fieldLink RX12 213 "OrderMoverModel" "vNow" "I") (by decide +kernel)) (fun _ h9 => h9) rfl dX12_isLess_35 ?_
  obtain ⟨v38_2152, hc38_2154, h⟩ := sm_bd h
  refine sm_cl (va_runS (As := [.int (M a0 26), .long ((x3).toInt64), .long ((x4).toInt64), .int (M a0 27), .int (M a0 28)]) (rest := []) ⟨hx, hb, hml, hown, hts⟩ (k_X12_by l D cA adr hJ (M a0 26) ((x3).toInt64) ((x4).toInt64) (M a0 27) (M a0 28)  M v38_2152 hc38_2154) (va_cwS 5 hts gX12_isLess_X12_by rfl rfl rfl (by decide +kernel) ⟨Nat.le_of_ble_eq_true rfl, Nat.le_of_ble_eq_true rfl⟩) ⟨smPc_bl, smPc_in [.int (M a0 26), .long ((x3).toInt64), .long ((x4).toInt64), .int (M a0 27), .int (M a0 28)] hE hP⟩ rfl rfl hl.1 rfl (lv_room (Nat.le_of_ble_eq_true rfl)) dX12_isLess_38 ⟨Nat.zero_le _, Nat.zero_le _⟩) hS (fun H locs hP hS => ?_)
  refine lv_lstore (lv' := [(7, .long v38_2152), (5, .long v16_2149), (0, .ref (adr a0)), (1, .int x1), (2, .int x2), (3, .int x3), (4, .int x4)]) hx hb dX12_isLess_41 hl (by decide) rfl (fun ls hl => ?_)
  refine lv_lload hx hb dX12_isLess_43 (lv_at hl 1 rfl) ?_
  refine lv_lload hx hb dX12_isLess_45 (lv_at hl 0 rfl) ?_
  refine W.lcmp hx hb dX12_isLess_47 ?_
  refine lv_if_eq (tgt := 65) hx hb dX12_isLess_48 (by decide) (fun c48_2155 => ?_) (fun c48_2155 => ?_)
  · rw [if_pos c48_2155] at h
    refine lv_aload_n hx hb dX12_isLess_65 rfl (lv_at hl 2 rfl) ?_
    refine sm_get (ci := 12) (C := RX12) (T := TX12) (N := 54) (v := .int (M a0 26)) hx hb hts hin12 hown hE hP ha0 rfl rfl 26 (by decide) (hts (.fieldLink RX12 207 "OrderMoverModel" "orderNow" "I") (by decide +kernel)) (fun _ h9 => h9) rfl dX12_isLess_66 ?_
    refine sm_jn (x := v1) (T := fun (q : Unit) => m_X12_isLess_j80 x2 x4 M) (P := fun (q : Unit) H locs ls => smP D cA 2 adr M H ∧ va_S (smA 2 adr) s.heap H locs ∧ lv_has ls 9 [(2, .int x2), (4, .int x4)]) (st := fun (q : Unit) => []) (pc := 80) ?_ (fun J80_2156 => ?_)
    · intro q H locs ls h hI
      obtain ⟨hP, hS, hl⟩ := hI
      have hP : smP D cA 2 adr M H := hP
      have hl : lv_has ls 9 [(2, .int x2), (4, .int x4)] := hl
      have h : m_X12_isLess_j80 x2 x4 M = some _ := h
      unfold m_X12_isLess_j80 at h
      refine W.eq (g2 := F0 m 80 ls []) rfl ?_
      refine lv_iload_n hx hb dX12_isLess_80 rfl (lv_at hl 0 rfl) ?_
      refine lv_iload hx hb dX12_isLess_81 (lv_at hl 1 rfl) ?_
      refine lv_icmp_ge (tgt := 90) hx hb dX12_isLess_83 (by decide) (fun c83_2157 => ?_) (fun c83_2157 => ?_)
      · rw [if_pos c83_2157] at h
        refine lv_iconst (v := (0 : Int32)) hx hb dX12_isLess_90 (by decide) ?_
        refine lv_goto (tgt := 104) hx hb dX12_isLess_91 (by decide) ?_
        cases h
        exact sm_zret (by first | rfl | decide) hx hb hr hlocks hP hS dX12_isLess_104
      · rw [if_neg c83_2157] at h
        refine lv_iconst (v := (1 : Int32)) hx hb dX12_isLess_86 (by decide) ?_
        refine lv_goto (tgt := 104) hx hb dX12_isLess_87 (by decide) ?_
        cases h
        exact sm_zret (by first | rfl | decide) hx hb hr hlocks hP hS dX12_isLess_104
    refine lv_if_eq (tgt := 80) hx hb dX12_isLess_69 (by decide) (fun c69_2158 => ?_) (fun c69_2158 => ?_)
    · rw [if_pos c69_2158] at h
      exact J80_2156 () _ _ _ h ⟨hP, hS, lv_sub hl [4, 6] rfl⟩
    · rw [if_neg c69_2158] at h
      refine lv_aload_n hx hb dX12_isLess_72 rfl (lv_at hl 2 rfl) ?_
      refine sm_get (ci := 12) (C := RX12) (T := TX12) (N := 54) (v := .int (M a0 26)) hx hb hts hin12 hown hE hP ha0 rfl rfl 26 (by decide) (hts (.fieldLink RX12 207 "OrderMoverModel" "orderNow" "I") (by decide +kernel)) (fun _ h9 => h9) rfl dX12_isLess_73 ?_
      refine lv_iconst (v := (3 : Int32)) hx hb dX12_isLess_76 (by decide) ?_
      refine lv_icmp_ne (tgt := 94) hx hb dX12_isLess_77 (by decide) (fun c77_2159 => ?_) (fun c77_2159 => ?_)
      · rw [if_neg c77_2159] at h
        refine lv_iload_n hx hb dX12_isLess_94 rfl (lv_at hl 3 rfl) ?_
        refine lv_iload_n hx hb dX12_isLess_95 rfl (lv_at hl 5 rfl) ?_
        refine lv_icmp_ge (tgt := 103) hx hb dX12_isLess_96 (by decide) (fun c96_2160 => ?_) (fun c96_2160 => ?_)
        · rw [if_pos c96_2160] at h
          refine lv_iconst (v := (0 : Int32)) hx hb dX12_isLess_103 (by decide) ?_
          cases h
          exact sm_zret (by first | rfl | decide) hx hb hr hlocks hP hS dX12_isLess_104
        · rw [if_neg c96_2160] at h
          refine lv_iconst (v := (1 : Int32)) hx hb dX12_isLess_99 (by decide) ?_
          refine lv_goto (tgt := 104) hx hb dX12_isLess_100 (by decide) ?_
          cases h
          exact sm_zret (by first | rfl | decide) hx hb hr hlocks hP hS dX12_isLess_104
      · rw [if_pos c77_2159] at h
        exact J80_2156 () _ _ _ h ⟨hP, hS, lv_sub hl [4, 6] rfl⟩
  · rw [if_neg c48_2155] at h
    refine lv_lload hx hb dX12_isLess_51 (lv_at hl 1 rfl) ?_
    refine lv_lload hx hb dX12_isLess_53 (lv_at hl 0 rfl) ?_
    refine W.lcmp hx hb dX12_isLess_55 ?_
    refine lv_if_ge (tgt := 63) hx hb dX12_isLess_56 (by decide) (fun c56_2161 => ?_) (fun c56_2161 => ?_)
    · rw [if_pos c56_2161] at h
      refine lv_iconst (v := (0 : Int32)) hx hb dX12_isLess_63 (by decide) ?_
      cases h
      exact sm_zret (by first | rfl | decide) hx hb hr hlocks hP hS dX12_isLess_64
    · rw [if_neg c56_2161] at h
      refine lv_iconst (v := (1 : Int32)) hx hb dX12_isLess_59 (by decide) ?_
      refine lv_goto (tgt := 64) hx hb dX12_isLess_60 (by decide) ?_
      cases h
      exact sm_zret (by first | rfl | decide) hx hb hr hlocks hP hS dX12_isLess_64
set_option maxHeartbeats 4000000 in
set_option maxRecDepth 100000 in
theorem k_X12_formOf (l : Launch) (D : va_G) (cA : Nat → ClassId) (adr : Nat → Nat) (hJ : smJ 2 adr) (a0 : Nat) (x1 : Int32) (x2 : Int32) (ha0 : smT 2 a0 12) (M : smM) (M1 : smM) (h : m_X12_formOf a0 x1 x2 M = some M1) : Met l yX12_formOf wsX12_formOf ({ frames := 3, cells := 0, slots := 0, locals := 68 }) (smPc D cA 2 adr M [.ref (adr a0), .int x1, .int x2]) (smQv D cA 2 adr M1) 0 0 (smA 2 adr) := by
  refine Met.ofW (cc := cX12_formOf) (maxL := 4) (ret := none) (by decide) rfl ?_
  intro p e s m args below meth c s₁ B hml hv
  obtain ⟨rfl, hE, hP⟩ := hv
  have hx := B.exec
  have hb := B.bytes
  have hr := B.returns
  have hts := atoms_spec (ws := wsX12_formOf) B.pre
  have hown : s.vm.findClass RX12 = some m.cls := findClass_of_methodNamed B.named
  have hlocks := B.notSynchronized
  have hS : va_S (smA 2 adr) s.heap s.heap [] := va_S.rf
  have hP : smP D cA 2 adr M s.heap := hP
  have hl := lv_entry ([.ref (adr a0), .int x1, .int x2]) (n := 4) (Nat.le_of_ble_eq_true rfl)
  rw [lg_entry_eq]
  generalize (lg_sl ([.ref (adr a0), .int x1, .int x2]) ++ List.replicate (4 - (lg_sl ([.ref (adr a0), .int x1, .int x2])).length) Slot.unset).toArray = ls at hl ⊢
  have hl : lv_has ls 4 [(0, .ref (adr a0)), (1, .int x1), (2, .int x2)] := hl
  unfold m_X12_formOf at h
  have hin12 : ∀ w ∈ u_ws RX12 TX12 54, w ∈ wsX12_formOf := by decide +kernel
  refine lv_iconst (v := (0 : Int32)) hx hb dX12_formOf_0 (by decide) ?_
  refine lv_istore_n (lv' := [(3, .int (0 : Int32)), (0, .ref (adr a0)), (1, .int x1), (2, .int x2)]) hx hb dX12_formOf_1 rfl hl (by decide) rfl (fun ls hl => ?_)
  refine sm_lp (b := fun rc q => m_X12_formOf_b2 a0 x1 x2 rc q.1 q.2) (P := fun (q : Int32 × smM) H locs ls => smP D cA 2 adr q.2 H ∧ va_S (smA 2 adr) s.heap H locs ∧ lv_has ls 4 [(0, .ref (adr a0)), (1, .int x1), (2, .int x2), (3, .int q.1)]) (pc := 2) ?_ _ _ _ _ _ h ⟨hP, hS, lv_sub hl [1, 2, 3, 0] rfl⟩
  intro rc2_2164 ih2_2165 q H locs ls h hI
  obtain ⟨x3_2_2162, M2_2163⟩ := q
  obtain ⟨hP, hS, hl⟩ := hI
  have hP : smP D cA 2 adr M2_2163 H := hP
  have hl : lv_has ls 4 [(0, .ref (adr a0)), (1, .int x1), (2, .int x2), (3, .int x3_2_2162)] := hl
  have h : m_X12_formOf_b2 a0 x1 x2 rc2_2164 x3_2_2162 M2_2163 = some _ := h
  unfold m_X12_formOf_b2 at h
  refine lv_iload_n hx hb dX12_formOf_2 rfl (lv_at hl 3 rfl) ?_
  refine lv_bipush (v := (9 : Int32)) hx hb dX12_formOf_3 (by decide) ?_
  refine lv_icmp_ge (tgt := 21) hx hb dX12_formOf_5 (by decide) (fun c5_2166 => ?_) (fun c5_2166 => ?_)
  · rw [if_pos c5_2166] at h
    refine lv_aload_n hx hb dX12_formOf_21 rfl (lv_at hl 0 rfl) ?_
    refine sm_get (ci := 12) (C := RX12) (T := TX12) (N := 54) (v := .ref (adr (a0 + 20))) hx hb hts hin12 hown hE hP ha0 rfl rfl 24 (by decide) (hts (.fieldLink RX12 84 "OrderMoverModel" "form" "[I") (by decide +kernel)) (fun _ h9 => h9) rfl dX12_formOf_22 ?_
    refine lv_iconst (v := (0 : Int32)) hx hb dX12_formOf_25 (by decide) ?_
    refine lv_iconst (v := (1 : Int32)) hx hb dX12_formOf_26 (by decide) ?_
    obtain ⟨c27_2167, h⟩ := sm_ck h
    refine sm_iast hx hb hE hJ hP hS (t12_24 ha0) c27_2167 dX12_formOf_27 (fun H locs hP hS => ?_)
    obtain ⟨M27_2168, hM, h⟩ := sm_lt h
    rw [← hM] at hP; clear hM
    refine lv_aload_n hx hb dX12_formOf_28 rfl (lv_at hl 0 rfl) ?_
    refine lv_aload_n hx hb dX12_formOf_29 rfl (lv_at hl 0 rfl) ?_
    refine sm_get (ci := 12) (C := RX12) (T := TX12) (N := 54) (v := .ref (adr (a0 + 16))) hx hb hts hin12 hown hE hP ha0 rfl rfl 20 (by decide) (hts (.fieldLink RX12 72 "OrderMoverModel" "byX" "[I") (by decide +kernel)) (fun _ h9 => h9) rfl dX12_formOf_30 ?_
    refine lv_iload_n hx hb dX12_formOf_33 rfl (lv_at hl 1 rfl) ?_
    obtain ⟨M34_2170, hc34_2171, h⟩ := sm_bd h
    refine sm_cv (va_runV (As := [.ref (adr (a0 + 16)), .int x1]) (rest := []) ⟨hx, hb, hml, hown, hts⟩ (k_X12_appliesOften l D cA adr hJ a0 (a0 + 16) x1 ha0 (t12_20 ha0) M27_2168 M34_2170 hc34_2171) (cwV 2 hts gX12_formOf_X12_appliesOften rfl rfl rfl (by decide +kernel) ⟨Nat.le_of_ble_eq_true rfl, Nat.le_of_ble_eq_true rfl⟩) ⟨smPc_bl, smRv hE hP ha0 rfl (ci := 12) (q := (RX12, TX12, 54)) rfl, smPc_in [.ref (adr a0), .ref (adr (a0 + 16)), .int x1] hE hP⟩ rfl rfl hl.1 rfl (lv_room (Nat.le_of_ble_eq_true rfl)) dX12_formOf_34 ⟨Nat.zero_le _, Nat.zero_le _⟩) hS (fun H locs hP hS => ?_)
    refine lv_aload_n hx hb dX12_formOf_37 rfl (lv_at hl 0 rfl) ?_
    refine lv_aload_n hx hb dX12_formOf_38 rfl (lv_at hl 0 rfl) ?_
    refine sm_get (ci := 12) (C := RX12) (T := TX12) (N := 54) (v := .ref (adr (a0 + 17))) hx hb hts hin12 hown hE hP ha0 rfl rfl 21 (by decide) (hts (.fieldLink RX12 75 "OrderMoverModel" "byY" "[I") (by decide +kernel)) (fun _ h9 => h9) rfl dX12_formOf_39 ?_
    refine lv_iload_n hx hb dX12_formOf_42 rfl (lv_at hl 2 rfl) ?_
    obtain ⟨M43_2173, hc43_2174, h⟩ := sm_bd h
    refine sm_cv (va_runV (As := [.ref (adr (a0 + 17)), .int x2]) (rest := []) ⟨hx, hb, hml, hown, hts⟩ (k_X12_appliesOften l D cA adr hJ a0 (a0 + 17) x2 ha0 (t12_21 ha0) M34_2170 M43_2173 hc43_2174) (cwV 2 hts gX12_formOf_X12_appliesOften rfl rfl rfl (by decide +kernel) ⟨Nat.le_of_ble_eq_true rfl, Nat.le_of_ble_eq_true rfl⟩) ⟨smPc_bl, smRv hE hP ha0 rfl (ci := 12) (q := (RX12, TX12, 54)) rfl, smPc_in [.ref (adr a0), .ref (adr (a0 + 17)), .int x2] hE hP⟩ rfl rfl hl.1 rfl (lv_room (Nat.le_of_ble_eq_true rfl)) dX12_formOf_43 ⟨Nat.zero_le _, Nat.zero_le _⟩) hS (fun H locs hP hS => ?_)
    cases h
    exact sm_vret hx hb hr hlocks hP hS dX12_formOf_46
  · rw [if_neg c5_2166] at h
    refine lv_aload_n hx hb dX12_formOf_8 rfl (lv_at hl 0 rfl) ?_
    refine sm_get (ci := 12) (C := RX12) (T := TX12) (N := 54) (v := .ref (adr (a0 + 20))) hx hb hts hin12 hown hE hP ha0 rfl rfl 24 (by decide) (hts (.fieldLink RX12 84 "OrderMoverModel" "form" "[I") (by decide +kernel)) (fun _ h9 => h9) rfl dX12_formOf_9 ?_
    refine lv_iload_n hx hb dX12_formOf_12 rfl (lv_at hl 3 rfl) ?_
    refine lv_iconst (v := (0 : Int32)) hx hb dX12_formOf_13 (by decide) ?_
    obtain ⟨c14_2175, h⟩ := sm_ck h
    refine sm_iast hx hb hE hJ hP hS (t12_24 ha0) c14_2175 dX12_formOf_14 (fun H locs hP hS => ?_)
    obtain ⟨M14_2176, hM, h⟩ := sm_lt h
    rw [← hM] at hP; clear hM
    refine lv_iinc (v := (x3_2_2162 + (1 : Int32))) (lv' := [(3, .int (x3_2_2162 + (1 : Int32))), (0, .ref (adr a0)), (1, .int x1), (2, .int x2)]) hx hb dX12_formOf_15 hl (k := 3) rfl (congrArg (fun z => x3_2_2162 + z) (by decide)) (by decide) rfl (fun ls hl => ?_)
    refine lv_goto (tgt := 2) hx hb dX12_formOf_18 (by decide) ?_
    exact ih2_2165 ((x3_2_2162 + (1 : Int32)), M14_2176) _ _ _ h ⟨hP, hS, lv_sub hl [1, 2, 3, 0] rfl⟩
set_option maxHeartbeats 4000000 in
set_option maxRecDepth 100000 in
theorem k_X12_isLeft (l : Launch) (D : va_G) (cA : Nat → ClassId) (adr : Nat → Nat) (hJ : smJ 2 adr) (a0 : Nat) (ha0 : smT 2 a0 12) (M : smM) (v1 : Int32) (M1 : smM) (h : m_X12_isLeft a0 M = some (v1, M1)) : Met l yX12_isLeft wsX12_isLeft ({ frames := 1, cells := 0, slots := 0, locals := 24 }) (smPc D cA 2 adr M [.ref (adr a0)]) (smQi D cA 2 adr M1 v1) 0 0 (smA 2 adr) := by
  refine Met.ofW (cc := cX12_isLeft) (maxL := 4) (ret := (some .int)) (by decide) rfl ?_
  intro p e s m args below meth c s₁ B hml hv
  obtain ⟨rfl, hE, hP⟩ := hv
  have hx := B.exec
  have hb := B.bytes
  have hr := B.returns
  have hts := atoms_spec (ws := wsX12_isLeft) B.pre
  have hown : s.vm.findClass RX12 = some m.cls := findClass_of_methodNamed B.named
  have hlocks := B.notSynchronized
  have hS : va_S (smA 2 adr) s.heap s.heap [] := va_S.rf
  have hP : smP D cA 2 adr M s.heap := hP
  have hl := lv_entry ([.ref (adr a0)]) (n := 4) (Nat.le_of_ble_eq_true rfl)
  rw [lg_entry_eq]
  generalize (lg_sl ([.ref (adr a0)]) ++ List.replicate (4 - (lg_sl ([.ref (adr a0)])).length) Slot.unset).toArray = ls at hl ⊢
  have hl : lv_has ls 4 [(0, .ref (adr a0))] := hl
  unfold m_X12_isLeft at h
  have hin12 : ∀ w ∈ u_ws RX12 TX12 54, w ∈ wsX12_isLeft := by decide +kernel
  refine lv_iconst (v := (0 : Int32)) hx hb dX12_isLeft_0 (by decide) ?_
  refine lv_istore_n (lv' := [(1, .int (0 : Int32)), (0, .ref (adr a0))]) hx hb dX12_isLeft_1 rfl hl (by decide) rfl (fun ls hl => ?_)
  refine sm_lp (b := fun rc q => m_X12_isLeft_b2 a0 rc q.1 q.2) (P := fun (q : Int32 × smM) H locs ls => smP D cA 2 adr q.2 H ∧ va_S (smA 2 adr) s.heap H locs ∧ lv_has ls 4 [(0, .ref (adr a0)), (1, .int q.1)]) (pc := 2) ?_ _ _ _ _ _ h ⟨hP, hS, lv_sub hl [1, 0] rfl⟩
  intro rc2_2179 ih2_2180 q H locs ls h hI
  obtain ⟨x1_2_2177, M2_2178⟩ := q
  obtain ⟨hP, hS, hl⟩ := hI
  have hP : smP D cA 2 adr M2_2178 H := hP
  have hl : lv_has ls 4 [(0, .ref (adr a0)), (1, .int x1_2_2177)] := hl
  have h : m_X12_isLeft_b2 a0 rc2_2179 x1_2_2177 M2_2178 = some _ := h
  unfold m_X12_isLeft_b2 at h
  refine lv_iload_n hx hb dX12_isLeft_2 rfl (lv_at hl 1 rfl) ?_
  refine lv_bipush (v := (9 : Int32)) hx hb dX12_isLeft_3 (by decide) ?_
  refine lv_icmp_ge (tgt := 21) hx hb dX12_isLeft_5 (by decide) (fun c5_2181 => ?_) (fun c5_2181 => ?_)
  · rw [if_pos c5_2181] at h
    refine lv_iconst (v := (0 : Int32)) hx hb dX12_isLeft_21 (by decide) ?_
    refine lv_istore_n (lv' := [(1, .int (0 : Int32)), (0, .ref (adr a0))]) hx hb dX12_isLeft_22 rfl hl (by decide) rfl (fun ls hl => ?_)
    refine sm_lp (b := fun rc q => m_X12_isLeft_b23 a0 rc2_2179 rc q.1 q.2) (P := fun (q : Int32 × smM) H locs ls => smP D cA 2 adr q.2 H ∧ va_S (smA 2 adr) s.heap H locs ∧ lv_has ls 4 [(0, .ref (adr a0)), (1, .int q.1)]) (pc := 23) ?_ _ _ _ _ _ h ⟨hP, hS, lv_sub hl [1, 0] rfl⟩
    intro rc23_2184 ih23_2185 q H locs ls h hI
    obtain ⟨x1_23_2182, M23_2183⟩ := q
    obtain ⟨hP, hS, hl⟩ := hI
    have hP : smP D cA 2 adr M23_2183 H := hP
    have hl : lv_has ls 4 [(0, .ref (adr a0)), (1, .int x1_23_2182)] := hl
    have h : m_X12_isLeft_b23 a0 rc2_2179 rc23_2184 x1_23_2182 M23_2183 = some _ := h
    unfold m_X12_isLeft_b23 at h
    refine lv_iload_n hx hb dX12_isLeft_23 rfl (lv_at hl 1 rfl) ?_
    refine lv_aload_n hx hb dX12_isLeft_24 rfl (lv_at hl 0 rfl) ?_
    refine sm_get (ci := 12) (C := RX12) (T := TX12) (N := 54) (v := .int (M23_2183 a0 29)) hx hb hts hin12 hown hE hP ha0 rfl rfl 29 (by decide) (hts (.fieldLink RX12 220 "OrderMoverModel" "stairs" "I") (by decide +kernel)) (fun _ h9 => h9) rfl dX12_isLeft_25 ?_
    refine lv_icmp_ge (tgt := 136) hx hb dX12_isLeft_28 (by decide) (fun c28_2186 => ?_) (fun c28_2186 => ?_)
    · rw [if_pos c28_2186] at h
      refine lv_iconst (v := (0 : Int32)) hx hb dX12_isLeft_136 (by decide) ?_
      refine lv_istore_n (lv' := [(1, .int (0 : Int32)), (0, .ref (adr a0))]) hx hb dX12_isLeft_137 rfl hl (by decide) rfl (fun ls hl => ?_)
      refine sm_lp (b := fun rc q => m_X12_isLeft_b138 a0 M23_2183 rc2_2179 rc23_2184 rc q) (P := fun (q : Int32) H locs ls => smP D cA 2 adr M23_2183 H ∧ va_S (smA 2 adr) s.heap H locs ∧ lv_has ls 4 [(0, .ref (adr a0)), (1, .int q)]) (pc := 138) ?_ _ _ _ _ _ h ⟨hP, hS, lv_sub hl [1, 0] rfl⟩
      intro rc138_2188 ih138_2189 q H locs ls h hI
      obtain ⟨x1_138_2187, hq⟩ : ∃ y, y = q := ⟨_, rfl⟩; subst hq
      obtain ⟨hP, hS, hl⟩ := hI
      have hP : smP D cA 2 adr M23_2183 H := hP
      have hl : lv_has ls 4 [(0, .ref (adr a0)), (1, .int x1_138_2187)] := hl
      have h : m_X12_isLeft_b138 a0 M23_2183 rc2_2179 rc23_2184 rc138_2188 x1_138_2187 = some _ := h
      unfold m_X12_isLeft_b138 at h
      refine lv_iload_n hx hb dX12_isLeft_138 rfl (lv_at hl 1 rfl) ?_
      refine lv_bipush (v := (9 : Int32)) hx hb dX12_isLeft_139 (by decide) ?_
      refine lv_icmp_ge (tgt := 161) hx hb dX12_isLeft_141 (by decide) (fun c141_2190 => ?_) (fun c141_2190 => ?_)
      · rw [if_pos c141_2190] at h
        refine lv_bipush (v := (-4 : Int32)) hx hb dX12_isLeft_161 (by decide) ?_
        cases h
        exact sm_iret hx hb hr hlocks hP hS dX12_isLeft_163
      · rw [if_neg c141_2190] at h
        refine lv_aload_n hx hb dX12_isLeft_144 rfl (lv_at hl 0 rfl) ?_
        refine sm_get (ci := 12) (C := RX12) (T := TX12) (N := 54) (v := .ref (adr (a0 + 20))) hx hb hts hin12 hown hE hP ha0 rfl rfl 24 (by decide) (hts (.fieldLink RX12 84 "OrderMoverModel" "form" "[I") (by decide +kernel)) (fun _ h9 => h9) rfl dX12_isLeft_145 ?_
        refine lv_iload_n hx hb dX12_isLeft_148 rfl (lv_at hl 1 rfl) ?_
        obtain ⟨c149_2191, h⟩ := sm_ck h
        refine sm_iald hx hb hE hP (t12_24 ha0) c149_2191 dX12_isLeft_149 ?_
        refine lv_if_eq (tgt := 155) hx hb dX12_isLeft_150 (by decide) (fun c150_2192 => ?_) (fun c150_2192 => ?_)
        · rw [if_pos c150_2192] at h
          refine lv_iinc (v := (x1_138_2187 + (1 : Int32))) (lv' := [(1, .int (x1_138_2187 + (1 : Int32))), (0, .ref (adr a0))]) hx hb dX12_isLeft_155 hl (k := 1) rfl (congrArg (fun z => x1_138_2187 + z) (by decide)) (by decide) rfl (fun ls hl => ?_)
          refine lv_goto (tgt := 138) hx hb dX12_isLeft_158 (by decide) ?_
          exact ih138_2189 (x1_138_2187 + (1 : Int32)) _ _ _ h ⟨hP, hS, lv_sub hl [1, 0] rfl⟩
        · rw [if_neg c150_2192] at h
          refine lv_iload_n hx hb dX12_isLeft_153 rfl (lv_at hl 1 rfl) ?_
          cases h
          exact sm_iret hx hb hr hlocks hP hS dX12_isLeft_154
    · rw [if_neg c28_2186] at h
      refine lv_aload_n hx hb dX12_isLeft_31 rfl (lv_at hl 0 rfl) ?_
      refine sm_get (ci := 12) (C := RX12) (T := TX12) (N := 54) (v := .ref (adr (a0 + 20))) hx hb hts hin12 hown hE hP ha0 rfl rfl 24 (by decide) (hts (.fieldLink RX12 84 "OrderMoverModel" "form" "[I") (by decide +kernel)) (fun _ h9 => h9) rfl dX12_isLeft_32 ?_
      refine lv_aload_n hx hb dX12_isLeft_35 rfl (lv_at hl 0 rfl) ?_
      refine sm_get (ci := 12) (C := RX12) (T := TX12) (N := 54) (v := .ref (adr (a0 + 25))) hx hb hts hin12 hown hE hP ha0 rfl rfl 33 (by decide) (hts (.fieldLink RX12 99 "OrderMoverModel" "pivots" "[I") (by decide +kernel)) (fun _ h9 => h9) rfl dX12_isLeft_36 ?_
      refine lv_iload_n hx hb dX12_isLeft_39 rfl (lv_at hl 1 rfl) ?_
      obtain ⟨c40_2193, h⟩ := sm_ck h
      refine sm_iald hx hb hE hP (t12_33 ha0) c40_2193 dX12_isLeft_40 ?_
      obtain ⟨c41_2194, h⟩ := sm_ck h
      refine sm_iald hx hb hE hP (t12_24 ha0) c41_2194 dX12_isLeft_41 ?_
      refine lv_istore_n (lv' := [(2, .int (M23_2183 (a0 + 20) ((M23_2183 (a0 + 25) (x1_23_2182).toNatClampNeg)).toNatClampNeg)), (0, .ref (adr a0)), (1, .int x1_23_2182)]) hx hb dX12_isLeft_42 rfl hl (by decide) rfl (fun ls hl => ?_)
      refine lv_iconst (v := (0 : Int32)) hx hb dX12_isLeft_43 (by decide) ?_
      refine lv_istore_n (lv' := [(3, .int (0 : Int32)), (2, .int (M23_2183 (a0 + 20) ((M23_2183 (a0 + 25) (x1_23_2182).toNatClampNeg)).toNatClampNeg)), (0, .ref (adr a0)), (1, .int x1_23_2182)]) hx hb dX12_isLeft_44 rfl hl (by decide) rfl (fun ls hl => ?_)
      refine sm_lp (b := fun rc q => m_X12_isLeft_b45 a0 x1_23_2182 (M23_2183 (a0 + 20) ((M23_2183 (a0 + 25) (x1_23_2182).toNatClampNeg)).toNatClampNeg) rc2_2179 rc23_2184 rc q.1 q.2) (P := fun (q : Int32 × smM) H locs ls => smP D cA 2 adr q.2 H ∧ va_S (smA 2 adr) s.heap H locs ∧ lv_has ls 4 [(0, .ref (adr a0)), (1, .int x1_23_2182), (2, .int (M23_2183 (a0 + 20) ((M23_2183 (a0 + 25) (x1_23_2182).toNatClampNeg)).toNatClampNeg)), (3, .int q.1)]) (pc := 45) ?_ _ _ _ _ _ h ⟨hP, hS, lv_sub hl [2, 3, 1, 0] rfl⟩
      intro rc45_2197 ih45_2198 q H locs ls h hI
      obtain ⟨x3_45_2195, M45_2196⟩ := q
      obtain ⟨hP, hS, hl⟩ := hI
      have hP : smP D cA 2 adr M45_2196 H := hP
      have hl : lv_has ls 4 [(0, .ref (adr a0)), (1, .int x1_23_2182), (2, .int (M23_2183 (a0 + 20) ((M23_2183 (a0 + 25) (x1_23_2182).toNatClampNeg)).toNatClampNeg)), (3, .int x3_45_2195)] := hl
      have h : m_X12_isLeft_b45 a0 x1_23_2182 (M23_2183 (a0 + 20) ((M23_2183 (a0 + 25) (x1_23_2182).toNatClampNeg)).toNatClampNeg) rc2_2179 rc23_2184 rc45_2197 x3_45_2195 M45_2196 = some _ := h
      unfold m_X12_isLeft_b45 at h
      refine lv_iload_n hx hb dX12_isLeft_45 rfl (lv_at hl 3 rfl) ?_
      refine lv_bipush (v := (9 : Int32)) hx hb dX12_isLeft_46 (by decide) ?_
      refine lv_icmp_ge (tgt := 130) hx hb dX12_isLeft_48 (by decide) (fun c48_2199 => ?_) (fun c48_2199 => ?_)
      · rw [if_pos c48_2199] at h
        refine lv_iinc (v := (x1_23_2182 + (1 : Int32))) (lv' := [(1, .int (x1_23_2182 + (1 : Int32))), (0, .ref (adr a0)), (2, .int (M23_2183 (a0 + 20) ((M23_2183 (a0 + 25) (x1_23_2182).toNatClampNeg)).toNatClampNeg)), (3, .int x3_45_2195)]) hx hb dX12_isLeft_130 hl (k := 1) rfl (congrArg (fun z => x1_23_2182 + z) (by decide)) (by decide) rfl (fun ls hl => ?_)
        refine lv_goto (tgt := 23) hx hb dX12_isLeft_133 (by decide) ?_
        exact ih23_2185 ((x1_23_2182 + (1 : Int32)), M45_2196) _ _ _ h ⟨hP, hS, lv_sub hl [1, 0] rfl⟩
      · rw [if_neg c48_2199] at h
        refine lv_iload_n hx hb dX12_isLeft_51 rfl (lv_at hl 2 rfl) ?_
        refine lv_if_eq (tgt := 130) hx hb dX12_isLeft_52 (by decide) (fun c52_2200 => ?_) (fun c52_2200 => ?_)
        · rw [if_pos c52_2200] at h
          refine lv_iinc (v := (x1_23_2182 + (1 : Int32))) (lv' := [(1, .int (x1_23_2182 + (1 : Int32))), (0, .ref (adr a0)), (2, .int (M23_2183 (a0 + 20) ((M23_2183 (a0 + 25) (x1_23_2182).toNatClampNeg)).toNatClampNeg)), (3, .int x3_45_2195)]) hx hb dX12_isLeft_130 hl (k := 1) rfl (congrArg (fun z => x1_23_2182 + z) (by decide)) (by decide) rfl (fun ls hl => ?_)
          refine lv_goto (tgt := 23) hx hb dX12_isLeft_133 (by decide) ?_
          exact ih23_2185 ((x1_23_2182 + (1 : Int32)), M45_2196) _ _ _ h ⟨hP, hS, lv_sub hl [1, 0] rfl⟩
        · rw [if_neg c52_2200] at h
          refine lv_aload_n hx hb dX12_isLeft_55 rfl (lv_at hl 0 rfl) ?_
          refine sm_get (ci := 12) (C := RX12) (T := TX12) (N := 54) (v := .ref (adr (a0 + 20))) hx hb hts hin12 hown hE hP ha0 rfl rfl 24 (by decide) (hts (.fieldLink RX12 84 "OrderMoverModel" "form" "[I") (by decide +kernel)) (fun _ h9 => h9) rfl dX12_isLeft_56 ?_
          refine lv_iload_n hx hb dX12_isLeft_59 rfl (lv_at hl 3 rfl) ?_
          refine lv_aload_n hx hb dX12_isLeft_60 rfl (lv_at hl 0 rfl) ?_
          refine lv_aload_n hx hb dX12_isLeft_61 rfl (lv_at hl 0 rfl) ?_
          refine sm_get (ci := 12) (C := RX12) (T := TX12) (N := 54) (v := .ref (adr (a0 + 20))) hx hb hts hin12 hown hE hP ha0 rfl rfl 24 (by decide) (hts (.fieldLink RX12 84 "OrderMoverModel" "form" "[I") (by decide +kernel)) (fun _ h9 => h9) rfl dX12_isLeft_62 ?_
          refine lv_iload_n hx hb dX12_isLeft_65 rfl (lv_at hl 3 rfl) ?_
          obtain ⟨c66_2201, h⟩ := sm_ck h
          refine sm_iald hx hb hE hP (t12_24 ha0) c66_2201 dX12_isLeft_66 ?_
          refine lv_i2l hx hb dX12_isLeft_67 rfl ?_
          refine lv_iload_n hx hb dX12_isLeft_68 rfl (lv_at hl 2 rfl) ?_
          refine lv_i2l hx hb dX12_isLeft_69 rfl ?_
          refine lv_aload_n hx hb dX12_isLeft_70 rfl (lv_at hl 0 rfl) ?_
          refine sm_get (ci := 12) (C := RX12) (T := TX12) (N := 54) (v := .ref (adr (a0 + 24))) hx hb hts hin12 hown hE hP ha0 rfl rfl 32 (by decide) (hts (.fieldLink RX12 96 "OrderMoverModel" "rows" "[I") (by decide +kernel)) (fun _ h9 => h9) rfl dX12_isLeft_71 ?_
          refine lv_bipush (v := (18 : Int32)) hx hb dX12_isLeft_74 (by decide) ?_
          refine lv_iload_n hx hb dX12_isLeft_76 rfl (lv_at hl 1 rfl) ?_
          refine lv_imul hx hb dX12_isLeft_77 ?_
          refine lv_iload_n hx hb dX12_isLeft_78 rfl (lv_at hl 3 rfl) ?_
          refine lv_iadd hx hb dX12_isLeft_79 ?_
          obtain ⟨c80_2202, h⟩ := sm_ck h
          refine sm_iald hx hb hE hP (t12_32 ha0) c80_2202 dX12_isLeft_80 ?_
          refine lv_i2l hx hb dX12_isLeft_81 rfl ?_
          refine lv_lmul hx hb dX12_isLeft_82 ?_
          refine lv_lsub hx hb dX12_isLeft_83 ?_
          obtain ⟨v84_2203, hc84_2205, h⟩ := sm_bd h
          refine sm_ci (va_runV (As := [.long (((M45_2196 (a0 + 20) (x3_45_2195).toNatClampNeg)).toInt64 - (((M23_2183 (a0 + 20) ((M23_2183 (a0 + 25) (x1_23_2182).toNatClampNeg)).toNatClampNeg)).toInt64 * ((M45_2196 (a0 + 24) ((((18 : Int32) * x1_23_2182) + x3_45_2195)).toNatClampNeg)).toInt64))]) (rest := [.int x3_45_2195, .ref (adr (a0 + 20))]) ⟨hx, hb, hml, hown, hts⟩ (k_X12_mod l D cA adr hJ a0 (((M45_2196 (a0 + 20) (x3_45_2195).toNatClampNeg)).toInt64 - (((M23_2183 (a0 + 20) ((M23_2183 (a0 + 25) (x1_23_2182).toNatClampNeg)).toNatClampNeg)).toInt64 * ((M45_2196 (a0 + 24) ((((18 : Int32) * x1_23_2182) + x3_45_2195)).toNatClampNeg)).toInt64)) ha0 M45_2196 v84_2203 hc84_2205) (cwV 1 hts gX12_isLeft_X12_mod rfl rfl rfl (by decide +kernel) ⟨Nat.le_of_ble_eq_true rfl, Nat.le_of_ble_eq_true rfl⟩) ⟨smPc_bl, smRv hE hP ha0 rfl (ci := 12) (q := (RX12, TX12, 54)) rfl, smPc_in [.ref (adr a0), .long (((M45_2196 (a0 + 20) (x3_45_2195).toNatClampNeg)).toInt64 - (((M23_2183 (a0 + 20) ((M23_2183 (a0 + 25) (x1_23_2182).toNatClampNeg)).toNatClampNeg)).toInt64 * ((M45_2196 (a0 + 24) ((((18 : Int32) * x1_23_2182) + x3_45_2195)).toNatClampNeg)).toInt64))] hE hP⟩ rfl rfl hl.1 rfl (lv_room (Nat.le_of_ble_eq_true rfl)) dX12_isLeft_84 ⟨Nat.zero_le _, Nat.zero_le _⟩) hS (fun H locs hP hS => ?_)
          obtain ⟨c87_2206, h⟩ := sm_ck h
          refine sm_iast hx hb hE hJ hP hS (t12_24 ha0) c87_2206 dX12_isLeft_87 (fun H locs hP hS => ?_)
          obtain ⟨M87_2207, hM, h⟩ := sm_lt h
          rw [← hM] at hP; clear hM
          refine lv_aload_n hx hb dX12_isLeft_88 rfl (lv_at hl 0 rfl) ?_
          refine sm_get (ci := 12) (C := RX12) (T := TX12) (N := 54) (v := .ref (adr (a0 + 31))) hx hb hts hin12 hown hE hP ha0 rfl rfl 41 (by decide) (hts (.fieldLink RX12 117 "OrderMoverModel" "made" "[I") (by decide +kernel)) (fun _ h9 => h9) rfl dX12_isLeft_89 ?_
          refine lv_iload_n hx hb dX12_isLeft_92 rfl (lv_at hl 3 rfl) ?_
          refine lv_aload_n hx hb dX12_isLeft_93 rfl (lv_at hl 0 rfl) ?_
          refine lv_aload_n hx hb dX12_isLeft_94 rfl (lv_at hl 0 rfl) ?_
          refine sm_get (ci := 12) (C := RX12) (T := TX12) (N := 54) (v := .ref (adr (a0 + 31))) hx hb hts hin12 hown hE hP ha0 rfl rfl 41 (by decide) (hts (.fieldLink RX12 117 "OrderMoverModel" "made" "[I") (by decide +kernel)) (fun _ h9 => h9) rfl dX12_isLeft_95 ?_
          refine lv_iload_n hx hb dX12_isLeft_98 rfl (lv_at hl 3 rfl) ?_
          obtain ⟨c99_2208, h⟩ := sm_ck h
          refine sm_iald hx hb hE hP (t12_41 ha0) c99_2208 dX12_isLeft_99 ?_
          refine lv_i2l hx hb dX12_isLeft_100 rfl ?_
          refine lv_iload_n hx hb dX12_isLeft_101 rfl (lv_at hl 2 rfl) ?_
          refine lv_i2l hx hb dX12_isLeft_102 rfl ?_
          refine lv_aload_n hx hb dX12_isLeft_103 rfl (lv_at hl 0 rfl) ?_
          refine sm_get (ci := 12) (C := RX12) (T := TX12) (N := 54) (v := .ref (adr (a0 + 24))) hx hb hts hin12 hown hE hP ha0 rfl rfl 32 (by decide) (hts (.fieldLink RX12 96 "OrderMoverModel" "rows" "[I") (by decide +kernel)) (fun _ h9 => h9) rfl dX12_isLeft_104 ?_
          refine lv_bipush (v := (18 : Int32)) hx hb dX12_isLeft_107 (by decide) ?_
          refine lv_iload_n hx hb dX12_isLeft_109 rfl (lv_at hl 1 rfl) ?_
          refine lv_imul hx hb dX12_isLeft_110 ?_
          refine lv_bipush (v := (9 : Int32)) hx hb dX12_isLeft_111 (by decide) ?_
          refine lv_iadd hx hb dX12_isLeft_113 ?_
          refine lv_iload_n hx hb dX12_isLeft_114 rfl (lv_at hl 3 rfl) ?_
          refine lv_iadd hx hb dX12_isLeft_115 ?_
          obtain ⟨c116_2209, h⟩ := sm_ck h
          refine sm_iald hx hb hE hP (t12_32 ha0) c116_2209 dX12_isLeft_116 ?_
          refine lv_i2l hx hb dX12_isLeft_117 rfl ?_
          refine lv_lmul hx hb dX12_isLeft_118 ?_
          refine lv_lsub hx hb dX12_isLeft_119 ?_
          obtain ⟨v120_2210, hc120_2212, h⟩ := sm_bd h
          refine sm_ci (va_runV (As := [.long (((M87_2207 (a0 + 31) (x3_45_2195).toNatClampNeg)).toInt64 - (((M23_2183 (a0 + 20) ((M23_2183 (a0 + 25) (x1_23_2182).toNatClampNeg)).toNatClampNeg)).toInt64 * ((M87_2207 (a0 + 24) (((((18 : Int32) * x1_23_2182) + (9 : Int32)) + x3_45_2195)).toNatClampNeg)).toInt64))]) (rest := [.int x3_45_2195, .ref (adr (a0 + 31))]) ⟨hx, hb, hml, hown, hts⟩ (k_X12_mod l D cA adr hJ a0 (((M87_2207 (a0 + 31) (x3_45_2195).toNatClampNeg)).toInt64 - (((M23_2183 (a0 + 20) ((M23_2183 (a0 + 25) (x1_23_2182).toNatClampNeg)).toNatClampNeg)).toInt64 * ((M87_2207 (a0 + 24) (((((18 : Int32) * x1_23_2182) + (9 : Int32)) + x3_45_2195)).toNatClampNeg)).toInt64)) ha0 M87_2207 v120_2210 hc120_2212) (cwV 1 hts gX12_isLeft_X12_mod rfl rfl rfl (by decide +kernel) ⟨Nat.le_of_ble_eq_true rfl, Nat.le_of_ble_eq_true rfl⟩) ⟨smPc_bl, smRv hE hP ha0 rfl (ci := 12) (q := (RX12, TX12, 54)) rfl, smPc_in [.ref (adr a0), .long (((M87_2207 (a0 + 31) (x3_45_2195).toNatClampNeg)).toInt64 - (((M23_2183 (a0 + 20) ((M23_2183 (a0 + 25) (x1_23_2182).toNatClampNeg)).toNatClampNeg)).toInt64 * ((M87_2207 (a0 + 24) (((((18 : Int32) * x1_23_2182) + (9 : Int32)) + x3_45_2195)).toNatClampNeg)).toInt64))] hE hP⟩ rfl rfl hl.1 rfl (lv_room (Nat.le_of_ble_eq_true rfl)) dX12_isLeft_120 ⟨Nat.zero_le _, Nat.zero_le _⟩) hS (fun H locs hP hS => ?_)
          obtain ⟨c123_2213, h⟩ := sm_ck h
          refine sm_iast hx hb hE hJ hP hS (t12_41 ha0) c123_2213 dX12_isLeft_123 (fun H locs hP hS => ?_)
          obtain ⟨M123_2214, hM, h⟩ := sm_lt h
          rw [← hM] at hP; clear hM
          refine lv_iinc (v := (x3_45_2195 + (1 : Int32))) (lv' := [(3, .int (x3_45_2195 + (1 : Int32))), (0, .ref (adr a0)), (1, .int x1_23_2182), (2, .int (M23_2183 (a0 + 20) ((M23_2183 (a0 + 25) (x1_23_2182).toNatClampNeg)).toNatClampNeg))]) hx hb dX12_isLeft_124 hl (k := 3) rfl (congrArg (fun z => x3_45_2195 + z) (by decide)) (by decide) rfl (fun ls hl => ?_)
          refine lv_goto (tgt := 45) hx hb dX12_isLeft_127 (by decide) ?_
          exact ih45_2198 ((x3_45_2195 + (1 : Int32)), M123_2214) _ _ _ h ⟨hP, hS, lv_sub hl [1, 2, 3, 0] rfl⟩
  · rw [if_neg c5_2181] at h
    refine lv_aload_n hx hb dX12_isLeft_8 rfl (lv_at hl 0 rfl) ?_
    refine sm_get (ci := 12) (C := RX12) (T := TX12) (N := 54) (v := .ref (adr (a0 + 31))) hx hb hts hin12 hown hE hP ha0 rfl rfl 41 (by decide) (hts (.fieldLink RX12 117 "OrderMoverModel" "made" "[I") (by decide +kernel)) (fun _ h9 => h9) rfl dX12_isLeft_9 ?_
    refine lv_iload_n hx hb dX12_isLeft_12 rfl (lv_at hl 1 rfl) ?_
    refine lv_iconst (v := (0 : Int32)) hx hb dX12_isLeft_13 (by decide) ?_
    obtain ⟨c14_2215, h⟩ := sm_ck h
    refine sm_iast hx hb hE hJ hP hS (t12_41 ha0) c14_2215 dX12_isLeft_14 (fun H locs hP hS => ?_)
    obtain ⟨M14_2216, hM, h⟩ := sm_lt h
    rw [← hM] at hP; clear hM
    refine lv_iinc (v := (x1_2_2177 + (1 : Int32))) (lv' := [(1, .int (x1_2_2177 + (1 : Int32))), (0, .ref (adr a0))]) hx hb dX12_isLeft_15 hl (k := 1) rfl (congrArg (fun z => x1_2_2177 + z) (by decide)) (by decide) rfl (fun ls hl => ?_)
    refine lv_goto (tgt := 2) hx hb dX12_isLeft_18 (by decide) ?_
    exact ih2_2180 ((x1_2_2177 + (1 : Int32)), M14_2216) _ _ _ h ⟨hP, hS, lv_sub hl [1, 0] rfl⟩
set_option maxHeartbeats 4000000 in
set_option maxRecDepth 100000 in
theorem k_X12_inverse (l : Launch) (D : va_G) (cA : Nat → ClassId) (adr : Nat → Nat) (hJ : smJ 2 adr) (a0 : Nat) (x1 : Int32) (ha0 : smT 2 a0 12) (M : smM) (v1 : Int32) (h : m_X12_inverse a0 x1 M = some v1) : Met l yX12_inverse wsX12_inverse ({ frames := 0, cells := 0, slots := 0, locals := 0 }) (smPc D cA 2 adr M [.ref (adr a0), .int x1]) (smQi D cA 2 adr M v1) 0 0 (smA 2 adr) := by
  refine Met.ofW (cc := cX12_inverse) (maxL := 3) (ret := (some .int)) (by decide) rfl ?_
  intro p e s m args below meth c s₁ B hml hv
  obtain ⟨rfl, hE, hP⟩ := hv
  have hx := B.exec
  have hb := B.bytes
  have hr := B.returns
  have hts := atoms_spec (ws := wsX12_inverse) B.pre
  have hown : s.vm.findClass RX12 = some m.cls := findClass_of_methodNamed B.named
  have hlocks := B.notSynchronized
  have hS : va_S (smA 2 adr) s.heap s.heap [] := va_S.rf
  have hP : smP D cA 2 adr M s.heap := hP
  have hl := lv_entry ([.ref (adr a0), .int x1]) (n := 3) (Nat.le_of_ble_eq_true rfl)
  rw [lg_entry_eq]
  generalize (lg_sl ([.ref (adr a0), .int x1]) ++ List.replicate (3 - (lg_sl ([.ref (adr a0), .int x1])).length) Slot.unset).toArray = ls at hl ⊢
  have hl : lv_has ls 3 [(0, .ref (adr a0)), (1, .int x1)] := hl
  unfold m_X12_inverse at h
  have hin12 : ∀ w ∈ u_ws RX12 TX12 54, w ∈ wsX12_inverse := by decide +kernel
  refine lv_iconst (v := (1 : Int32)) hx hb dX12_inverse_0 (by decide) ?_
  refine lv_istore_n (lv' := [(2, .int (1 : Int32)), (0, .ref (adr a0)), (1, .int x1)]) hx hb dX12_inverse_1 rfl hl (by decide) rfl (fun ls hl => ?_)
  refine sm_lp (b := fun rc q => m_X12_inverse_b2 a0 x1 M rc q) (P := fun (q : Int32) H locs ls => smP D cA 2 adr M H ∧ va_S (smA 2 adr) s.heap H locs ∧ lv_has ls 3 [(0, .ref (adr a0)), (1, .int x1), (2, .int q)]) (pc := 2) ?_ _ _ _ _ _ h ⟨hP, hS, lv_sub hl [1, 2, 0] rfl⟩
  intro rc2_2218 ih2_2219 q H locs ls h hI
  obtain ⟨x2_2_2217, hq⟩ : ∃ y, y = q := ⟨_, rfl⟩; subst hq
  obtain ⟨hP, hS, hl⟩ := hI
  have hP : smP D cA 2 adr M H := hP
  have hl : lv_has ls 3 [(0, .ref (adr a0)), (1, .int x1), (2, .int x2_2_2217)] := hl
  have h : m_X12_inverse_b2 a0 x1 M rc2_2218 x2_2_2217 = some _ := h
  unfold m_X12_inverse_b2 at h
  refine lv_iload_n hx hb dX12_inverse_2 rfl (lv_at hl 1 rfl) ?_
  refine lv_iload_n hx hb dX12_inverse_3 rfl (lv_at hl 2 rfl) ?_
  refine lv_imul hx hb dX12_inverse_4 ?_
  refine lv_aload_n hx hb dX12_inverse_5 rfl (lv_at hl 0 rfl) ?_
  refine sm_get (ci := 12) (C := RX12) (T := TX12) (N := 54) (v := .int (M a0 0)) hx hb hts hin12 hown hE hP ha0 rfl rfl 0 (by decide) (hts (.fieldLink RX12 7 "OrderMoverModel" "p" "I") (by decide +kernel)) (fun _ h9 => h9) rfl dX12_inverse_6 ?_
  obtain ⟨c9_2220, h⟩ := sm_ck h
  refine lv_irem hx hb dX12_inverse_9 c9_2220 ?_
  refine lv_iconst (v := (1 : Int32)) hx hb dX12_inverse_10 (by decide) ?_
  refine lv_icmp_eq (tgt := 20) hx hb dX12_inverse_11 (by decide) (fun c11_2221 => ?_) (fun c11_2221 => ?_)
  · rw [if_pos c11_2221] at h
    refine lv_iload_n hx hb dX12_inverse_20 rfl (lv_at hl 2 rfl) ?_
    cases h
    exact sm_iret hx hb hr hlocks hP hS dX12_inverse_21
  · rw [if_neg c11_2221] at h
    refine lv_iinc (v := (x2_2_2217 + (1 : Int32))) (lv' := [(2, .int (x2_2_2217 + (1 : Int32))), (0, .ref (adr a0)), (1, .int x1)]) hx hb dX12_inverse_14 hl (k := 2) rfl (congrArg (fun z => x2_2_2217 + z) (by decide)) (by decide) rfl (fun ls hl => ?_)
    refine lv_goto (tgt := 2) hx hb dX12_inverse_17 (by decide) ?_
    exact ih2_2219 (x2_2_2217 + (1 : Int32)) _ _ _ h ⟨hP, hS, lv_sub hl [1, 2, 0] rfl⟩
