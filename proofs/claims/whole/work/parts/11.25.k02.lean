set_option maxHeartbeats 4000000 in
set_option maxRecDepth 100000 in
theorem k_X6_multiply (l : Launch) (D : va_G) (cA : Nat → ClassId) (adr : Nat → Nat) (hJ : smJ 1 adr) (a0 : Nat) (x1 : Int32) (a2 : Nat) (a3 : Nat) (ha0 : smT 1 a0 6) (ha2 : smT 1 a2 20) (ha3 : smT 1 a3 20) (M : smM) (M1 : smM) (h : m_X6_multiply a0 x1 a2 a3 M = some M1) : Met l yX6_multiply wsX6_multiply ({ frames := 1, cells := 0, slots := 0, locals := 24 }) (smPc D cA 1 adr M [.ref (adr a0), .int x1, .ref (adr a2), .ref (adr a3)]) (smQv D cA 1 adr M1) 0 0 (smA 1 adr) := by
  refine Met.ofW (cc := cX6_multiply) (maxL := 7) (ret := none) (by decide) rfl ?_
  intro p e s m args below meth c s₁ B hml hv
  obtain ⟨rfl, hE, hP⟩ := hv
  have hx := B.exec
  have hb := B.bytes
  have hr := B.returns
  have hts := atoms_spec (ws := wsX6_multiply) B.pre
  have hown : s.vm.findClass RX6 = some m.cls := findClass_of_methodNamed B.named
  have hlocks := B.notSynchronized
  have hS : va_S (smA 1 adr) s.heap s.heap [] := va_S.rf
  have hP : smP D cA 1 adr M s.heap := hP
  have hl := lv_entry ([.ref (adr a0), .int x1, .ref (adr a2), .ref (adr a3)]) (n := 7) (Nat.le_of_ble_eq_true rfl)
  rw [lg_entry_eq]
  generalize (lg_sl ([.ref (adr a0), .int x1, .ref (adr a2), .ref (adr a3)]) ++ List.replicate (7 - (lg_sl ([.ref (adr a0), .int x1, .ref (adr a2), .ref (adr a3)])).length) Slot.unset).toArray = ls at hl ⊢
  have hl : lv_has ls 7 [(0, .ref (adr a0)), (1, .int x1), (2, .ref (adr a2)), (3, .ref (adr a3))] := hl
  unfold m_X6_multiply at h
  have hin6 : ∀ w ∈ u_ws RX6 TX6 5, w ∈ wsX6_multiply := by decide +kernel
  refine lv_aload_n hx hb dX6_multiply_0 rfl (lv_at hl 0 rfl) ?_
  refine sm_get (ci := 6) (C := RX6) (T := TX6) (N := 5) (v := .ref (adr (a0 + 38))) hx hb hts hin6 hown hE hP ha0 rfl rfl 4 (by decide) (hts (.fieldLink RX6 16 "OrderMover$Quotient" "moved" "[I") (by decide +kernel)) (fun _ h9 => h9) rfl dX6_multiply_1 ?_
  obtain ⟨M4_118, hc4_119, h⟩ := sm_bd h
  refine sm_cv (va_runSN (As := [.ref (adr (a0 + 38))]) (rest := []) ⟨hx, hb, hml, hown, hts⟩ (k_X11_clear l D cA adr hJ (a0 + 38) (t6_4 ha0) M M4_118 hc4_119) ⟨va_cnB (host := "OrderMover") 1 hts gX6_multiply_X11_clear_n47 rfl rfl rfl (hE.2 (RX6, 47, yX11_clear, "OrderMover") (by decide +kernel)) (hts (.initialized RX11) (by decide +kernel)) (by decide +kernel) ⟨Nat.le_of_ble_eq_true rfl, Nat.le_of_ble_eq_true rfl⟩, hts (.static yX11_clear) (by decide +kernel), trivial⟩ ⟨smPc_bl, smPc_in [.ref (adr (a0 + 38))] hE hP⟩ rfl rfl hl.1 rfl (lv_room (Nat.le_of_ble_eq_true rfl)) dX6_multiply_4 ⟨Nat.zero_le _, Nat.zero_le _⟩) hS (fun H locs hP hS => ?_)
  refine lv_iconst (v := (0 : Int32)) hx hb dX6_multiply_7 (by decide) ?_
  refine lv_istore (lv' := [(4, .int (0 : Int32)), (0, .ref (adr a0)), (1, .int x1), (2, .ref (adr a2)), (3, .ref (adr a3))]) hx hb dX6_multiply_8 hl (by decide) rfl (fun ls hl => ?_)
  refine sm_lp (b := fun rc q => m_X6_multiply_b10 a0 x1 a2 a3 rc q.1 q.2) (P := fun (q : Int32 × smM) H locs ls => smP D cA 1 adr q.2 H ∧ va_S (smA 1 adr) s.heap H locs ∧ lv_has ls 7 [(0, .ref (adr a0)), (1, .int x1), (2, .ref (adr a2)), (3, .ref (adr a3)), (4, .int q.1)]) (pc := 10) ?_ _ _ _ _ _ h ⟨hP, hS, lv_sub hl [1, 2, 3, 4, 0] rfl⟩
  intro rc10_122 ih10_123 q H locs ls h hI
  obtain ⟨x4_10_120, M10_121⟩ := q
  obtain ⟨hP, hS, hl⟩ := hI
  have hP : smP D cA 1 adr M10_121 H := hP
  have hl : lv_has ls 7 [(0, .ref (adr a0)), (1, .int x1), (2, .ref (adr a2)), (3, .ref (adr a3)), (4, .int x4_10_120)] := hl
  have h : m_X6_multiply_b10 a0 x1 a2 a3 rc10_122 x4_10_120 M10_121 = some _ := h
  unfold m_X6_multiply_b10 at h
  refine lv_iload hx hb dX6_multiply_10 (lv_at hl 4 rfl) ?_
  refine lv_aload_n hx hb dX6_multiply_12 rfl (lv_at hl 0 rfl) ?_
  refine sm_get (ci := 6) (C := RX6) (T := TX6) (N := 5) (v := .int (M10_121 a0 2)) hx hb hts hin6 hown hE hP ha0 rfl rfl 2 (by decide) (hts (.fieldLink RX6 36 "OrderMover$Quotient" "height" "I") (by decide +kernel)) (fun _ h9 => h9) rfl dX6_multiply_13 ?_
  refine lv_icmp_ge (tgt := 102) hx hb dX6_multiply_16 (by decide) (fun c16_124 => ?_) (fun c16_124 => ?_)
  · rw [if_pos c16_124] at h
    refine lv_iconst (v := (0 : Int32)) hx hb dX6_multiply_102 (by decide) ?_
    refine lv_istore (lv' := [(4, .int (0 : Int32)), (0, .ref (adr a0)), (1, .int x1), (2, .ref (adr a2)), (3, .ref (adr a3))]) hx hb dX6_multiply_103 hl (by decide) rfl (fun ls hl => ?_)
    refine sm_lp (b := fun rc q => m_X6_multiply_b105 a0 a3 rc10_122 rc q.1 q.2) (P := fun (q : Int32 × smM) H locs ls => smP D cA 1 adr q.2 H ∧ va_S (smA 1 adr) s.heap H locs ∧ lv_has ls 7 [(0, .ref (adr a0)), (3, .ref (adr a3)), (4, .int q.1)]) (pc := 105) ?_ _ _ _ _ _ h ⟨hP, hS, lv_sub hl [1, 4, 0] rfl⟩
    intro rc105_127 ih105_128 q H locs ls h hI
    obtain ⟨x4_105_125, M105_126⟩ := q
    obtain ⟨hP, hS, hl⟩ := hI
    have hP : smP D cA 1 adr M105_126 H := hP
    have hl : lv_has ls 7 [(0, .ref (adr a0)), (3, .ref (adr a3)), (4, .int x4_105_125)] := hl
    have h : m_X6_multiply_b105 a0 a3 rc10_122 rc105_127 x4_105_125 M105_126 = some _ := h
    unfold m_X6_multiply_b105 at h
    refine lv_iload hx hb dX6_multiply_105 (lv_at hl 2 rfl) ?_
    refine lv_bipush (v := (9 : Int32)) hx hb dX6_multiply_107 (by decide) ?_
    refine lv_icmp_ge (tgt := 129) hx hb dX6_multiply_109 (by decide) (fun c109_129 => ?_) (fun c109_129 => ?_)
    · rw [if_pos c109_129] at h
      cases h
      exact sm_vret hx hb hr hlocks hP hS dX6_multiply_129
    · rw [if_neg c109_129] at h
      refine lv_aload_n hx hb dX6_multiply_112 rfl (lv_at hl 1 rfl) ?_
      refine lv_iload hx hb dX6_multiply_113 (lv_at hl 2 rfl) ?_
      refine lv_aload_n hx hb dX6_multiply_115 rfl (lv_at hl 0 rfl) ?_
      refine sm_get (ci := 6) (C := RX6) (T := TX6) (N := 5) (v := .ref (adr (a0 + 38))) hx hb hts hin6 hown hE hP ha0 rfl rfl 4 (by decide) (hts (.fieldLink RX6 16 "OrderMover$Quotient" "moved" "[I") (by decide +kernel)) (fun _ h9 => h9) rfl dX6_multiply_116 ?_
      refine lv_iload hx hb dX6_multiply_119 (lv_at hl 2 rfl) ?_
      obtain ⟨c121_130, h⟩ := sm_ck h
      refine sm_iald hx hb hE hP (t6_4 ha0) c121_130 dX6_multiply_121 ?_
      obtain ⟨c122_131, h⟩ := sm_ck h
      refine sm_iast hx hb hE hJ hP hS ha3 c122_131 dX6_multiply_122 (fun H locs hP hS => ?_)
      obtain ⟨M122_132, hM, h⟩ := sm_lt h
      rw [← hM] at hP; clear hM
      refine lv_iinc (v := (x4_105_125 + (1 : Int32))) (lv' := [(4, .int (x4_105_125 + (1 : Int32))), (0, .ref (adr a0)), (3, .ref (adr a3))]) hx hb dX6_multiply_123 hl (k := 2) rfl (congrArg (fun z => x4_105_125 + z) (by decide)) (by decide) rfl (fun ls hl => ?_)
      refine lv_goto (tgt := 105) hx hb dX6_multiply_126 (by decide) ?_
      exact ih105_128 ((x4_105_125 + (1 : Int32)), M122_132) _ _ _ h ⟨hP, hS, lv_sub hl [1, 2, 0] rfl⟩
  · rw [if_neg c16_124] at h
    refine lv_iconst (v := (0 : Int32)) hx hb dX6_multiply_19 (by decide) ?_
    refine lv_istore (lv' := [(5, .int (0 : Int32)), (0, .ref (adr a0)), (1, .int x1), (2, .ref (adr a2)), (3, .ref (adr a3)), (4, .int x4_10_120)]) hx hb dX6_multiply_20 hl (by decide) rfl (fun ls hl => ?_)
    refine sm_lp (b := fun rc q => m_X6_multiply_b22 a0 x1 a2 a3 x4_10_120 rc10_122 rc q.1 q.2) (P := fun (q : Int32 × smM) H locs ls => smP D cA 1 adr q.2 H ∧ va_S (smA 1 adr) s.heap H locs ∧ lv_has ls 7 [(0, .ref (adr a0)), (1, .int x1), (2, .ref (adr a2)), (3, .ref (adr a3)), (4, .int x4_10_120), (5, .int q.1)]) (pc := 22) ?_ _ _ _ _ _ h ⟨hP, hS, lv_sub hl [1, 2, 3, 4, 5, 0] rfl⟩
    intro rc22_135 ih22_136 q H locs ls h hI
    obtain ⟨x5_22_133, M22_134⟩ := q
    obtain ⟨hP, hS, hl⟩ := hI
    have hP : smP D cA 1 adr M22_134 H := hP
    have hl : lv_has ls 7 [(0, .ref (adr a0)), (1, .int x1), (2, .ref (adr a2)), (3, .ref (adr a3)), (4, .int x4_10_120), (5, .int x5_22_133)] := hl
    have h : m_X6_multiply_b22 a0 x1 a2 a3 x4_10_120 rc10_122 rc22_135 x5_22_133 M22_134 = some _ := h
    unfold m_X6_multiply_b22 at h
    refine lv_iload hx hb dX6_multiply_22 (lv_at hl 5 rfl) ?_
    refine lv_aload_n hx hb dX6_multiply_24 rfl (lv_at hl 0 rfl) ?_
    refine sm_get (ci := 6) (C := RX6) (T := TX6) (N := 5) (v := .int (M22_134 a0 1)) hx hb hts hin6 hown hE hP ha0 rfl rfl 1 (by decide) (hts (.fieldLink RX6 30 "OrderMover$Quotient" "width" "I") (by decide +kernel)) (fun _ h9 => h9) rfl dX6_multiply_25 ?_
    refine lv_icmp_ge (tgt := 96) hx hb dX6_multiply_28 (by decide) (fun c28_137 => ?_) (fun c28_137 => ?_)
    · rw [if_pos c28_137] at h
      refine lv_iinc (v := (x4_10_120 + (1 : Int32))) (lv' := [(4, .int (x4_10_120 + (1 : Int32))), (0, .ref (adr a0)), (1, .int x1), (2, .ref (adr a2)), (3, .ref (adr a3)), (5, .int x5_22_133)]) hx hb dX6_multiply_96 hl (k := 4) rfl (congrArg (fun z => x4_10_120 + z) (by decide)) (by decide) rfl (fun ls hl => ?_)
      refine lv_goto (tgt := 10) hx hb dX6_multiply_99 (by decide) ?_
      exact ih10_123 ((x4_10_120 + (1 : Int32)), M22_134) _ _ _ h ⟨hP, hS, lv_sub hl [1, 2, 3, 4, 0] rfl⟩
    · rw [if_neg c28_137] at h
      refine lv_aload_n hx hb dX6_multiply_31 rfl (lv_at hl 2 rfl) ?_
      refine lv_aload_n hx hb dX6_multiply_32 rfl (lv_at hl 0 rfl) ?_
      refine sm_get (ci := 6) (C := RX6) (T := TX6) (N := 5) (v := .int (M22_134 a0 1)) hx hb hts hin6 hown hE hP ha0 rfl rfl 1 (by decide) (hts (.fieldLink RX6 30 "OrderMover$Quotient" "width" "I") (by decide +kernel)) (fun _ h9 => h9) rfl dX6_multiply_33 ?_
      refine lv_iload hx hb dX6_multiply_36 (lv_at hl 4 rfl) ?_
      refine lv_imul hx hb dX6_multiply_38 ?_
      refine lv_iload hx hb dX6_multiply_39 (lv_at hl 5 rfl) ?_
      refine lv_iadd hx hb dX6_multiply_41 ?_
      obtain ⟨c42_138, h⟩ := sm_ck h
      refine sm_iald hx hb hE hP ha2 c42_138 dX6_multiply_42 ?_
      refine lv_istore (lv' := [(6, .int (M22_134 a2 ((((M22_134 a0 1) * x4_10_120) + x5_22_133)).toNatClampNeg)), (0, .ref (adr a0)), (1, .int x1), (2, .ref (adr a2)), (3, .ref (adr a3)), (4, .int x4_10_120), (5, .int x5_22_133)]) hx hb dX6_multiply_43 hl (by decide) rfl (fun ls hl => ?_)
      refine lv_iload hx hb dX6_multiply_45 (lv_at hl 0 rfl) ?_
      refine lv_if_eq (tgt := 90) hx hb dX6_multiply_47 (by decide) (fun c47_139 => ?_) (fun c47_139 => ?_)
      · rw [if_pos c47_139] at h
        refine lv_iinc (v := (x5_22_133 + (1 : Int32))) (lv' := [(5, .int (x5_22_133 + (1 : Int32))), (6, .int (M22_134 a2 ((((M22_134 a0 1) * x4_10_120) + x5_22_133)).toNatClampNeg)), (0, .ref (adr a0)), (1, .int x1), (2, .ref (adr a2)), (3, .ref (adr a3)), (4, .int x4_10_120)]) hx hb dX6_multiply_90 hl (k := 6) rfl (congrArg (fun z => x5_22_133 + z) (by decide)) (by decide) rfl (fun ls hl => ?_)
        refine lv_goto (tgt := 22) hx hb dX6_multiply_93 (by decide) ?_
        exact ih22_136 ((x5_22_133 + (1 : Int32)), M22_134) _ _ _ h ⟨hP, hS, lv_sub hl [2, 3, 4, 5, 6, 0] rfl⟩
      · rw [if_neg c47_139] at h
        refine lv_aload_n hx hb dX6_multiply_50 rfl (lv_at hl 1 rfl) ?_
        refine sm_get (ci := 6) (C := RX6) (T := TX6) (N := 5) (v := .ref (adr (a0 + 38))) hx hb hts hin6 hown hE hP ha0 rfl rfl 4 (by decide) (hts (.fieldLink RX6 16 "OrderMover$Quotient" "moved" "[I") (by decide +kernel)) (fun _ h9 => h9) rfl dX6_multiply_51 ?_
        refine lv_iload_n hx hb dX6_multiply_54 rfl (lv_at hl 2 rfl) ?_
        refine lv_if_ne (tgt := 71) hx hb dX6_multiply_55 (by decide) (fun c55_140 => ?_) (fun c55_140 => ?_)
        · rw [if_neg c55_140] at h
          refine lv_aload_n hx hb dX6_multiply_71 rfl (lv_at hl 1 rfl) ?_
          refine lv_iload hx hb dX6_multiply_72 (lv_at hl 6 rfl) ?_
          refine lv_iload hx hb dX6_multiply_74 (lv_at hl 5 rfl) ?_
          refine lv_iconst (v := (1 : Int32)) hx hb dX6_multiply_76 (by decide) ?_
          refine lv_iadd hx hb dX6_multiply_77 ?_
          obtain ⟨v78_141, hc78_143, h⟩ := sm_bd h
          refine sm_cr (va_runV (As := [.int x5_22_133, .int (x4_10_120 + (1 : Int32))]) (rest := [.ref (adr (a0 + 38))]) ⟨hx, hb, hml, hown, hts⟩ (k_X6_formAt l D cA adr hJ a0 x5_22_133 (x4_10_120 + (1 : Int32)) ha0 M22_134 v78_141 hc78_143) (cwV 2 hts gX6_multiply_X6_formAt rfl rfl rfl (by decide +kernel) ⟨Nat.le_of_ble_eq_true rfl, Nat.le_of_ble_eq_true rfl⟩) ⟨smPc_bl, smRv hE hP ha0 rfl (ci := 6) (q := (RX6, TX6, 5)) rfl, smPc_in [.ref (adr a0), .int x5_22_133, .int (x4_10_120 + (1 : Int32))] hE hP⟩ rfl rfl hl.1 rfl (lv_room (Nat.le_of_ble_eq_true rfl)) dX6_multiply_78 ⟨Nat.zero_le _, Nat.zero_le _⟩) hS (fun H locs hk78_144 hP hS => ?_)
          refine lv_iload hx hb dX6_multiply_81 (lv_at hl 0 rfl) ?_
          refine lv_aload_n hx hb dX6_multiply_83 rfl (lv_at hl 1 rfl) ?_
          refine sm_get (ci := 6) (C := RX6) (T := TX6) (N := 5) (v := .int (M22_134 a0 0)) hx hb hts hin6 hown hE hP ha0 rfl rfl 0 (by decide) (hts (.fieldLink RX6 26 "OrderMover$Quotient" "p" "I") (by decide +kernel)) (fun _ h9 => h9) rfl dX6_multiply_84 ?_
          obtain ⟨M87_146, hc87_147, h⟩ := sm_bd h
          refine sm_cv (va_runSN (As := [.ref (adr (a0 + 38)), .ref (adr v78_141), .int (M22_134 a2 ((((M22_134 a0 1) * x4_10_120) + x5_22_133)).toNatClampNeg), .int (M22_134 a0 0)]) (rest := []) ⟨hx, hb, hml, hown, hts⟩ (k_X11_bringMultiple l D cA adr hJ (a0 + 38) v78_141 (M22_134 a2 ((((M22_134 a0 1) * x4_10_120) + x5_22_133)).toNatClampNeg) (M22_134 a0 0) (t6_4 ha0) hk78_144 M22_134 M87_146 hc87_147) ⟨va_cnB (host := "OrderMover") 4 hts gX6_multiply_X11_bringMultiple_n67 rfl rfl rfl (hE.2 (RX6, 67, yX11_bringMultiple, "OrderMover") (by decide +kernel)) (hts (.initialized RX11) (by decide +kernel)) (by decide +kernel) ⟨Nat.le_of_ble_eq_true rfl, Nat.le_of_ble_eq_true rfl⟩, hts (.static yX11_bringMultiple) (by decide +kernel), trivial⟩ ⟨smPc_bl, smPc_in [.ref (adr (a0 + 38)), .ref (adr v78_141), .int (M22_134 a2 ((((M22_134 a0 1) * x4_10_120) + x5_22_133)).toNatClampNeg), .int (M22_134 a0 0)] hE hP⟩ rfl rfl hl.1 rfl (lv_room (Nat.le_of_ble_eq_true rfl)) dX6_multiply_87 ⟨Nat.zero_le _, Nat.zero_le _⟩) hS (fun H locs hP hS => ?_)
          refine lv_iinc (v := (x5_22_133 + (1 : Int32))) (lv' := [(5, .int (x5_22_133 + (1 : Int32))), (6, .int (M22_134 a2 ((((M22_134 a0 1) * x4_10_120) + x5_22_133)).toNatClampNeg)), (0, .ref (adr a0)), (1, .int x1), (2, .ref (adr a2)), (3, .ref (adr a3)), (4, .int x4_10_120)]) hx hb dX6_multiply_90 hl (k := 6) rfl (congrArg (fun z => x5_22_133 + z) (by decide)) (by decide) rfl (fun ls hl => ?_)
          refine lv_goto (tgt := 22) hx hb dX6_multiply_93 (by decide) ?_
          exact ih22_136 ((x5_22_133 + (1 : Int32)), M87_146) _ _ _ h ⟨hP, hS, lv_sub hl [2, 3, 4, 5, 6, 0] rfl⟩
        · rw [if_pos c55_140] at h
          refine lv_aload_n hx hb dX6_multiply_58 rfl (lv_at hl 1 rfl) ?_
          refine lv_iload hx hb dX6_multiply_59 (lv_at hl 6 rfl) ?_
          refine lv_iconst (v := (1 : Int32)) hx hb dX6_multiply_61 (by decide) ?_
          refine lv_iadd hx hb dX6_multiply_62 ?_
          refine lv_iload hx hb dX6_multiply_63 (lv_at hl 5 rfl) ?_
          obtain ⟨v65_148, hc65_150, h⟩ := sm_bd h
          refine sm_cr (va_runV (As := [.int (x5_22_133 + (1 : Int32)), .int x4_10_120]) (rest := [.ref (adr (a0 + 38))]) ⟨hx, hb, hml, hown, hts⟩ (k_X6_formAt l D cA adr hJ a0 (x5_22_133 + (1 : Int32)) x4_10_120 ha0 M22_134 v65_148 hc65_150) (cwV 2 hts gX6_multiply_X6_formAt rfl rfl rfl (by decide +kernel) ⟨Nat.le_of_ble_eq_true rfl, Nat.le_of_ble_eq_true rfl⟩) ⟨smPc_bl, smRv hE hP ha0 rfl (ci := 6) (q := (RX6, TX6, 5)) rfl, smPc_in [.ref (adr a0), .int (x5_22_133 + (1 : Int32)), .int x4_10_120] hE hP⟩ rfl rfl hl.1 rfl (lv_room (Nat.le_of_ble_eq_true rfl)) dX6_multiply_65 ⟨Nat.zero_le _, Nat.zero_le _⟩) hS (fun H locs hk65_151 hP hS => ?_)
          refine lv_goto (tgt := 81) hx hb dX6_multiply_68 (by decide) ?_
          refine lv_iload hx hb dX6_multiply_81 (lv_at hl 0 rfl) ?_
          refine lv_aload_n hx hb dX6_multiply_83 rfl (lv_at hl 1 rfl) ?_
          refine sm_get (ci := 6) (C := RX6) (T := TX6) (N := 5) (v := .int (M22_134 a0 0)) hx hb hts hin6 hown hE hP ha0 rfl rfl 0 (by decide) (hts (.fieldLink RX6 26 "OrderMover$Quotient" "p" "I") (by decide +kernel)) (fun _ h9 => h9) rfl dX6_multiply_84 ?_
          obtain ⟨M87_153, hc87_154, h⟩ := sm_bd h
          refine sm_cv (va_runSN (As := [.ref (adr (a0 + 38)), .ref (adr v65_148), .int (M22_134 a2 ((((M22_134 a0 1) * x4_10_120) + x5_22_133)).toNatClampNeg), .int (M22_134 a0 0)]) (rest := []) ⟨hx, hb, hml, hown, hts⟩ (k_X11_bringMultiple l D cA adr hJ (a0 + 38) v65_148 (M22_134 a2 ((((M22_134 a0 1) * x4_10_120) + x5_22_133)).toNatClampNeg) (M22_134 a0 0) (t6_4 ha0) hk65_151 M22_134 M87_153 hc87_154) ⟨va_cnB (host := "OrderMover") 4 hts gX6_multiply_X11_bringMultiple_n67 rfl rfl rfl (hE.2 (RX6, 67, yX11_bringMultiple, "OrderMover") (by decide +kernel)) (hts (.initialized RX11) (by decide +kernel)) (by decide +kernel) ⟨Nat.le_of_ble_eq_true rfl, Nat.le_of_ble_eq_true rfl⟩, hts (.static yX11_bringMultiple) (by decide +kernel), trivial⟩ ⟨smPc_bl, smPc_in [.ref (adr (a0 + 38)), .ref (adr v65_148), .int (M22_134 a2 ((((M22_134 a0 1) * x4_10_120) + x5_22_133)).toNatClampNeg), .int (M22_134 a0 0)] hE hP⟩ rfl rfl hl.1 rfl (lv_room (Nat.le_of_ble_eq_true rfl)) dX6_multiply_87 ⟨Nat.zero_le _, Nat.zero_le _⟩) hS (fun H locs hP hS => ?_)
          refine lv_iinc (v := (x5_22_133 + (1 : Int32))) (lv' := [(5, .int (x5_22_133 + (1 : Int32))), (6, .int (M22_134 a2 ((((M22_134 a0 1) * x4_10_120) + x5_22_133)).toNatClampNeg)), (0, .ref (adr a0)), (1, .int x1), (2, .ref (adr a2)), (3, .ref (adr a3)), (4, .int x4_10_120)]) hx hb dX6_multiply_90 hl (k := 6) rfl (congrArg (fun z => x5_22_133 + z) (by decide)) (by decide) rfl (fun ls hl => ?_)
          refine lv_goto (tgt := 22) hx hb dX6_multiply_93 (by decide) ?_
          exact ih22_136 ((x5_22_133 + (1 : Int32)), M87_153) _ _ _ h ⟨hP, hS, lv_sub hl [2, 3, 4, 5, 6, 0] rfl⟩
set_option maxHeartbeats 4000000 in
set_option maxRecDepth 100000 in
theorem k_X4_bring (l : Launch) (D : va_G) (cA : Nat → ClassId) (adr : Nat → Nat) (hJ : smJ 1 adr) (a0 : Nat) (x1 : Int32) (x2 : Int32) (a3 : Nat) (x4 : Int32) (ha0 : smT 1 a0 4) (ha3 : smT 1 a3 20) (M : smM) (M1 : smM) (h : m_X4_bring a0 x1 x2 a3 x4 M = some M1) : Met l yX4_bring wsX4_bring ({ frames := 1, cells := 0, slots := 0, locals := 24 }) (smPc D cA 1 adr M [.ref (adr a0), .int x1, .int x2, .ref (adr a3), .int x4]) (smQv D cA 1 adr M1) 0 0 (smA 1 adr) := by
  refine Met.ofW (cc := cX4_bring) (maxL := 5) (ret := none) (by decide) rfl ?_
  intro p e s m args below meth c s₁ B hml hv
  obtain ⟨rfl, hE, hP⟩ := hv
  have hx := B.exec
  have hb := B.bytes
  have hr := B.returns
  have hts := atoms_spec (ws := wsX4_bring) B.pre
  have hown : s.vm.findClass RX4 = some m.cls := findClass_of_methodNamed B.named
  have hlocks := B.notSynchronized
  have hS : va_S (smA 1 adr) s.heap s.heap [] := va_S.rf
  have hP : smP D cA 1 adr M s.heap := hP
  have hl := lv_entry ([.ref (adr a0), .int x1, .int x2, .ref (adr a3), .int x4]) (n := 5) (Nat.le_of_ble_eq_true rfl)
  rw [lg_entry_eq]
  generalize (lg_sl ([.ref (adr a0), .int x1, .int x2, .ref (adr a3), .int x4]) ++ List.replicate (5 - (lg_sl ([.ref (adr a0), .int x1, .int x2, .ref (adr a3), .int x4])).length) Slot.unset).toArray = ls at hl ⊢
  have hl : lv_has ls 5 [(0, .ref (adr a0)), (1, .int x1), (2, .int x2), (3, .ref (adr a3)), (4, .int x4)] := hl
  unfold m_X4_bring at h
  have hin4 : ∀ w ∈ u_ws RX4 TX4 4, w ∈ wsX4_bring := by decide +kernel
  refine lv_aload_n hx hb dX4_bring_0 rfl (lv_at hl 0 rfl) ?_
  refine sm_get (ci := 4) (C := RX4) (T := TX4) (N := 4) (v := .int (M a0 0)) hx hb hts hin4 hown hE hP ha0 rfl rfl 0 (by decide) (hts (.fieldLink RX4 23 "OrderMover$Members" "howMany" "I") (by decide +kernel)) (fun _ h9 => h9) rfl dX4_bring_1 ?_
  refine lv_bipush (v := (10 : Int32)) hx hb dX4_bring_4 (by decide) ?_
  refine lv_icmp_lt (tgt := 10) hx hb dX4_bring_6 (by decide) (fun c6_155 => ?_) (fun c6_155 => ?_)
  · rw [if_pos c6_155] at h
    refine lv_aload_n hx hb dX4_bring_10 rfl (lv_at hl 0 rfl) ?_
    refine sm_get (ci := 4) (C := RX4) (T := TX4) (N := 4) (v := .ref (adr (a0 + 1))) hx hb hts hin4 hown hE hP ha0 rfl rfl 1 (by decide) (hts (.fieldLink RX4 9 "OrderMover$Members" "xs" "[I") (by decide +kernel)) (fun _ h9 => h9) rfl dX4_bring_11 ?_
    refine lv_aload_n hx hb dX4_bring_14 rfl (lv_at hl 0 rfl) ?_
    refine sm_get (ci := 4) (C := RX4) (T := TX4) (N := 4) (v := .int (M a0 0)) hx hb hts hin4 hown hE hP ha0 rfl rfl 0 (by decide) (hts (.fieldLink RX4 23 "OrderMover$Members" "howMany" "I") (by decide +kernel)) (fun _ h9 => h9) rfl dX4_bring_15 ?_
    refine lv_iload_n hx hb dX4_bring_18 rfl (lv_at hl 1 rfl) ?_
    obtain ⟨c19_156, h⟩ := sm_ck h
    refine sm_iast hx hb hE hJ hP hS (t4_1 ha0) c19_156 dX4_bring_19 (fun H locs hP hS => ?_)
    obtain ⟨M19_157, hM, h⟩ := sm_lt h
    rw [← hM] at hP; clear hM
    refine lv_aload_n hx hb dX4_bring_20 rfl (lv_at hl 0 rfl) ?_
    refine sm_get (ci := 4) (C := RX4) (T := TX4) (N := 4) (v := .ref (adr (a0 + 2))) hx hb hts hin4 hown hE hP ha0 rfl rfl 2 (by decide) (hts (.fieldLink RX4 15 "OrderMover$Members" "ys" "[I") (by decide +kernel)) (fun _ h9 => h9) rfl dX4_bring_21 ?_
    refine lv_aload_n hx hb dX4_bring_24 rfl (lv_at hl 0 rfl) ?_
    refine sm_get (ci := 4) (C := RX4) (T := TX4) (N := 4) (v := .int (M19_157 a0 0)) hx hb hts hin4 hown hE hP ha0 rfl rfl 0 (by decide) (hts (.fieldLink RX4 23 "OrderMover$Members" "howMany" "I") (by decide +kernel)) (fun _ h9 => h9) rfl dX4_bring_25 ?_
    refine lv_iload_n hx hb dX4_bring_28 rfl (lv_at hl 2 rfl) ?_
    obtain ⟨c29_158, h⟩ := sm_ck h
    refine sm_iast hx hb hE hJ hP hS (t4_2 ha0) c29_158 dX4_bring_29 (fun H locs hP hS => ?_)
    obtain ⟨M29_159, hM, h⟩ := sm_lt h
    rw [← hM] at hP; clear hM
    refine lv_aload_n hx hb dX4_bring_30 rfl (lv_at hl 0 rfl) ?_
    refine sm_get (ci := 4) (C := RX4) (T := TX4) (N := 4) (v := .ref (adr (a0 + 3))) hx hb hts hin4 hown hE hP ha0 rfl rfl 3 (by decide) (hts (.fieldLink RX4 20 "OrderMover$Members" "tails" "[[I") (by decide +kernel)) (fun _ h9 => h9) rfl dX4_bring_31 ?_
    refine lv_aload_n hx hb dX4_bring_34 rfl (lv_at hl 0 rfl) ?_
    refine sm_get (ci := 4) (C := RX4) (T := TX4) (N := 4) (v := .int (M29_159 a0 0)) hx hb hts hin4 hown hE hP ha0 rfl rfl 0 (by decide) (hts (.fieldLink RX4 23 "OrderMover$Members" "howMany" "I") (by decide +kernel)) (fun _ h9 => h9) rfl dX4_bring_35 ?_
    obtain ⟨c38_160, h⟩ := sm_ck h
    refine sm_aald22 hx hb hE hP (t4_3 ha0) c38_160 dX4_bring_38 ?_
    obtain ⟨M39_162, hc39_163, h⟩ := sm_bd h
    refine sm_cv (va_runSN (As := [.ref (adr ((a0 + 3) + 1 + ((M29_159 a0 0)).toNatClampNeg))]) (rest := []) ⟨hx, hb, hml, hown, hts⟩ (k_X11_clear l D cA adr hJ ((a0 + 3) + 1 + ((M29_159 a0 0)).toNatClampNeg) (te22 (t4_3 ha0) c38_160) M29_159 M39_162 hc39_163) ⟨va_cnB (host := "OrderMover") 1 hts gX4_bring_X11_clear_n27 rfl rfl rfl (hE.2 (RX4, 27, yX11_clear, "OrderMover") (by decide +kernel)) (hts (.initialized RX11) (by decide +kernel)) (by decide +kernel) ⟨Nat.le_of_ble_eq_true rfl, Nat.le_of_ble_eq_true rfl⟩, hts (.static yX11_clear) (by decide +kernel), trivial⟩ ⟨smPc_bl, smPc_in [.ref (adr ((a0 + 3) + 1 + ((M29_159 a0 0)).toNatClampNeg))] hE hP⟩ rfl rfl hl.1 rfl (lv_room (Nat.le_of_ble_eq_true rfl)) dX4_bring_39 ⟨Nat.zero_le _, Nat.zero_le _⟩) hS (fun H locs hP hS => ?_)
    refine lv_aload_n hx hb dX4_bring_42 rfl (lv_at hl 0 rfl) ?_
    refine sm_get (ci := 4) (C := RX4) (T := TX4) (N := 4) (v := .ref (adr (a0 + 3))) hx hb hts hin4 hown hE hP ha0 rfl rfl 3 (by decide) (hts (.fieldLink RX4 20 "OrderMover$Members" "tails" "[[I") (by decide +kernel)) (fun _ h9 => h9) rfl dX4_bring_43 ?_
    refine lv_aload_n hx hb dX4_bring_46 rfl (lv_at hl 0 rfl) ?_
    refine sm_get (ci := 4) (C := RX4) (T := TX4) (N := 4) (v := .int (M39_162 a0 0)) hx hb hts hin4 hown hE hP ha0 rfl rfl 0 (by decide) (hts (.fieldLink RX4 23 "OrderMover$Members" "howMany" "I") (by decide +kernel)) (fun _ h9 => h9) rfl dX4_bring_47 ?_
    obtain ⟨c50_164, h⟩ := sm_ck h
    refine sm_aald22 hx hb hE hP (t4_3 ha0) c50_164 dX4_bring_50 ?_
    refine lv_aload_n hx hb dX4_bring_51 rfl (lv_at hl 3 rfl) ?_
    refine lv_iload hx hb dX4_bring_52 (lv_at hl 4 rfl) ?_
    refine lv_iconst (v := (1 : Int32)) hx hb dX4_bring_54 (by decide) ?_
    refine lv_isub hx hb dX4_bring_55 ?_
    refine lv_iload hx hb dX4_bring_56 (lv_at hl 4 rfl) ?_
    obtain ⟨M58_166, hc58_167, h⟩ := sm_bd h
    refine sm_cv (va_runSN (As := [.ref (adr ((a0 + 3) + 1 + ((M39_162 a0 0)).toNatClampNeg)), .ref (adr a3), .int (x4 - (1 : Int32)), .int x4]) (rest := []) ⟨hx, hb, hml, hown, hts⟩ (k_X11_bringMultiple l D cA adr hJ ((a0 + 3) + 1 + ((M39_162 a0 0)).toNatClampNeg) a3 (x4 - (1 : Int32)) x4 (te22 (t4_3 ha0) c50_164) ha3 M39_162 M58_166 hc58_167) ⟨va_cnB (host := "OrderMover") 4 hts gX4_bring_X11_bringMultiple_n31 rfl rfl rfl (hE.2 (RX4, 31, yX11_bringMultiple, "OrderMover") (by decide +kernel)) (hts (.initialized RX11) (by decide +kernel)) (by decide +kernel) ⟨Nat.le_of_ble_eq_true rfl, Nat.le_of_ble_eq_true rfl⟩, hts (.static yX11_bringMultiple) (by decide +kernel), trivial⟩ ⟨smPc_bl, smPc_in [.ref (adr ((a0 + 3) + 1 + ((M39_162 a0 0)).toNatClampNeg)), .ref (adr a3), .int (x4 - (1 : Int32)), .int x4] hE hP⟩ rfl rfl hl.1 rfl (lv_room (Nat.le_of_ble_eq_true rfl)) dX4_bring_58 ⟨Nat.zero_le _, Nat.zero_le _⟩) hS (fun H locs hP hS => ?_)
    refine lv_aload_n hx hb dX4_bring_61 rfl (lv_at hl 0 rfl) ?_
    refine lv_dup hx hb dX4_bring_62 rfl ?_
    refine sm_get (ci := 4) (C := RX4) (T := TX4) (N := 4) (v := .int (M58_166 a0 0)) hx hb hts hin4 hown hE hP ha0 rfl rfl 0 (by decide) (hts (.fieldLink RX4 23 "OrderMover$Members" "howMany" "I") (by decide +kernel)) (fun _ h9 => h9) rfl dX4_bring_63 ?_
    refine lv_iconst (v := (1 : Int32)) hx hb dX4_bring_66 (by decide) ?_
    refine lv_iadd hx hb dX4_bring_67 ?_
    refine sm_put (ci := 4) (C := RX4) (T := TX4) (N := 4) (ty := .int) hx hb hts hin4 tyX4 tyX4_ok nmX4 hown hE hJ hP hS ha0 rfl rfl 0 (by decide) (hts (.fieldLink RX4 23 "OrderMover$Members" "howMany" "I") (by decide +kernel)) (fun _ h9 => h9) rfl (by decide +kernel) rfl rfl (Nat.le_of_ble_eq_true rfl) rfl dX4_bring_68 (fun H locs hP hS => ?_)
    obtain ⟨M68_168, hM, h⟩ := sm_lt h
    rw [← hM] at hP; clear hM
    cases h
    exact sm_vret hx hb hr hlocks hP hS dX4_bring_71
  · rw [if_neg c6_155] at h
    cases h
    exact sm_vret hx hb hr hlocks hP hS dX4_bring_9
set_option maxHeartbeats 4000000 in
set_option maxRecDepth 100000 in
theorem k_X9_express (l : Launch) (D : va_G) (cA : Nat → ClassId) (adr : Nat → Nat) (hJ : smJ 1 adr) (a0 : Nat) (a1 : Nat) (a2 : Nat) (ha0 : smT 1 a0 9) (ha1 : smT 1 a1 20) (ha2 : smT 1 a2 20) (M : smM) (M1 : smM) (h : m_X9_express a0 a1 a2 M = some M1) : Met l yX9_express wsX9_express ({ frames := 1, cells := 0, slots := 0, locals := 24 }) (smPc D cA 1 adr M [.ref (adr a0), .ref (adr a1), .ref (adr a2)]) (smQv D cA 1 adr M1) 0 0 (smA 1 adr) := by
  refine Met.ofW (cc := cX9_express) (maxL := 5) (ret := none) (by decide) rfl ?_
  intro p e s m args below meth c s₁ B hml hv
  obtain ⟨rfl, hE, hP⟩ := hv
  have hx := B.exec
  have hb := B.bytes
  have hr := B.returns
  have hts := atoms_spec (ws := wsX9_express) B.pre
  have hown : s.vm.findClass RX9 = some m.cls := findClass_of_methodNamed B.named
  have hlocks := B.notSynchronized
  have hS : va_S (smA 1 adr) s.heap s.heap [] := va_S.rf
  have hP : smP D cA 1 adr M s.heap := hP
  have hl := lv_entry ([.ref (adr a0), .ref (adr a1), .ref (adr a2)]) (n := 5) (Nat.le_of_ble_eq_true rfl)
  rw [lg_entry_eq]
  generalize (lg_sl ([.ref (adr a0), .ref (adr a1), .ref (adr a2)]) ++ List.replicate (5 - (lg_sl ([.ref (adr a0), .ref (adr a1), .ref (adr a2)])).length) Slot.unset).toArray = ls at hl ⊢
  have hl : lv_has ls 5 [(0, .ref (adr a0)), (1, .ref (adr a1)), (2, .ref (adr a2))] := hl
  unfold m_X9_express at h
  have hin9 : ∀ w ∈ u_ws RX9 TX9 5, w ∈ wsX9_express := by decide +kernel
  refine lv_aload_n hx hb dX9_express_0 rfl (lv_at hl 2 rfl) ?_
  obtain ⟨M1_170, hc1_171, h⟩ := sm_bd h
  refine sm_cv (va_runSN (As := [.ref (adr a2)]) (rest := []) ⟨hx, hb, hml, hown, hts⟩ (k_X11_clear l D cA adr hJ a2 ha2 M M1_170 hc1_171) ⟨va_cnB (host := "OrderMover") 1 hts gX9_express_X11_clear_n30 rfl rfl rfl (hE.2 (RX9, 30, yX11_clear, "OrderMover") (by decide +kernel)) (hts (.initialized RX11) (by decide +kernel)) (by decide +kernel) ⟨Nat.le_of_ble_eq_true rfl, Nat.le_of_ble_eq_true rfl⟩, hts (.static yX11_clear) (by decide +kernel), trivial⟩ ⟨smPc_bl, smPc_in [.ref (adr a2)] hE hP⟩ rfl rfl hl.1 rfl (lv_room (Nat.le_of_ble_eq_true rfl)) dX9_express_1 ⟨Nat.zero_le _, Nat.zero_le _⟩) hS (fun H locs hP hS => ?_)
  refine lv_iconst (v := (0 : Int32)) hx hb dX9_express_4 (by decide) ?_
  refine lv_istore_n (lv' := [(3, .int (0 : Int32)), (0, .ref (adr a0)), (1, .ref (adr a1)), (2, .ref (adr a2))]) hx hb dX9_express_5 rfl hl (by decide) rfl (fun ls hl => ?_)
  refine sm_lp (b := fun rc q => m_X9_express_b6 a0 a1 a2 rc q.1 q.2) (P := fun (q : Int32 × smM) H locs ls => smP D cA 1 adr q.2 H ∧ va_S (smA 1 adr) s.heap H locs ∧ lv_has ls 5 [(0, .ref (adr a0)), (1, .ref (adr a1)), (2, .ref (adr a2)), (3, .int q.1)]) (pc := 6) ?_ _ _ _ _ _ h ⟨hP, hS, lv_sub hl [1, 2, 3, 0] rfl⟩
  intro rc6_174 ih6_175 q H locs ls h hI
  obtain ⟨x3_6_172, M6_173⟩ := q
  obtain ⟨hP, hS, hl⟩ := hI
  have hP : smP D cA 1 adr M6_173 H := hP
  have hl : lv_has ls 5 [(0, .ref (adr a0)), (1, .ref (adr a1)), (2, .ref (adr a2)), (3, .int x3_6_172)] := hl
  have h : m_X9_express_b6 a0 a1 a2 rc6_174 x3_6_172 M6_173 = some _ := h
  unfold m_X9_express_b6 at h
  refine lv_iload_n hx hb dX9_express_6 rfl (lv_at hl 3 rfl) ?_
  refine lv_aload_n hx hb dX9_express_7 rfl (lv_at hl 0 rfl) ?_
  refine sm_get (ci := 9) (C := RX9) (T := TX9) (N := 5) (v := .int (M6_173 a0 0)) hx hb hts hin9 hown hE hP ha0 rfl rfl 0 (by decide) (hts (.fieldLink RX9 23 "OrderMover$Span" "howMany" "I") (by decide +kernel)) (fun _ h9 => h9) rfl dX9_express_8 ?_
  refine lv_icmp_ge (tgt := 72) hx hb dX9_express_11 (by decide) (fun c11_176 => ?_) (fun c11_176 => ?_)
  · rw [if_pos c11_176] at h
    cases h
    exact sm_vret hx hb hr hlocks hP hS dX9_express_72
  · rw [if_neg c11_176] at h
    refine lv_aload_n hx hb dX9_express_14 rfl (lv_at hl 1 rfl) ?_
    refine lv_aload_n hx hb dX9_express_15 rfl (lv_at hl 0 rfl) ?_
    refine sm_get (ci := 9) (C := RX9) (T := TX9) (N := 5) (v := .ref (adr (a0 + 21))) hx hb hts hin9 hown hE hP ha0 rfl rfl 4 (by decide) (hts (.fieldLink RX9 19 "OrderMover$Span" "pivots" "[I") (by decide +kernel)) (fun _ h9 => h9) rfl dX9_express_16 ?_
    refine lv_iload_n hx hb dX9_express_19 rfl (lv_at hl 3 rfl) ?_
    obtain ⟨c20_177, h⟩ := sm_ck h
    refine sm_iald hx hb hE hP (t9_4 ha0) c20_177 dX9_express_20 ?_
    obtain ⟨c21_178, h⟩ := sm_ck h
    refine sm_iald hx hb hE hP ha1 c21_178 dX9_express_21 ?_
    refine lv_istore (lv' := [(4, .int (M6_173 a1 ((M6_173 (a0 + 21) (x3_6_172).toNatClampNeg)).toNatClampNeg)), (0, .ref (adr a0)), (1, .ref (adr a1)), (2, .ref (adr a2)), (3, .int x3_6_172)]) hx hb dX9_express_22 hl (by decide) rfl (fun ls hl => ?_)
    refine lv_iload hx hb dX9_express_24 (lv_at hl 0 rfl) ?_
    refine lv_if_eq (tgt := 66) hx hb dX9_express_26 (by decide) (fun c26_179 => ?_) (fun c26_179 => ?_)
    · rw [if_pos c26_179] at h
      refine lv_iinc (v := (x3_6_172 + (1 : Int32))) (lv' := [(3, .int (x3_6_172 + (1 : Int32))), (4, .int (M6_173 a1 ((M6_173 (a0 + 21) (x3_6_172).toNatClampNeg)).toNatClampNeg)), (0, .ref (adr a0)), (1, .ref (adr a1)), (2, .ref (adr a2))]) hx hb dX9_express_66 hl (k := 4) rfl (congrArg (fun z => x3_6_172 + z) (by decide)) (by decide) rfl (fun ls hl => ?_)
      refine lv_goto (tgt := 6) hx hb dX9_express_69 (by decide) ?_
      exact ih6_175 ((x3_6_172 + (1 : Int32)), M6_173) _ _ _ h ⟨hP, hS, lv_sub hl [2, 3, 4, 0] rfl⟩
    · rw [if_neg c26_179] at h
      refine lv_aload_n hx hb dX9_express_29 rfl (lv_at hl 2 rfl) ?_
      refine lv_aload_n hx hb dX9_express_30 rfl (lv_at hl 1 rfl) ?_
      refine sm_get (ci := 9) (C := RX9) (T := TX9) (N := 5) (v := .ref (adr (a0 + 1))) hx hb hts hin9 hown hE hP ha0 rfl rfl 2 (by decide) (hts (.fieldLink RX9 11 "OrderMover$Span" "rows" "[[I") (by decide +kernel)) (fun _ h9 => h9) rfl dX9_express_31 ?_
      refine lv_iload_n hx hb dX9_express_34 rfl (lv_at hl 4 rfl) ?_
      obtain ⟨c35_180, h⟩ := sm_ck h
      refine sm_aald22 hx hb hE hP (t9_2 ha0) c35_180 dX9_express_35 ?_
      refine lv_aload_n hx hb dX9_express_36 rfl (lv_at hl 1 rfl) ?_
      refine sm_get (ci := 9) (C := RX9) (T := TX9) (N := 5) (v := .int (M6_173 a0 1)) hx hb hts hin9 hown hE hP ha0 rfl rfl 1 (by decide) (hts (.fieldLink RX9 27 "OrderMover$Span" "p" "I") (by decide +kernel)) (fun _ h9 => h9) rfl dX9_express_37 ?_
      refine lv_iload hx hb dX9_express_40 (lv_at hl 0 rfl) ?_
      refine lv_isub hx hb dX9_express_42 ?_
      refine lv_aload_n hx hb dX9_express_43 rfl (lv_at hl 1 rfl) ?_
      refine sm_get (ci := 9) (C := RX9) (T := TX9) (N := 5) (v := .int (M6_173 a0 1)) hx hb hts hin9 hown hE hP ha0 rfl rfl 1 (by decide) (hts (.fieldLink RX9 27 "OrderMover$Span" "p" "I") (by decide +kernel)) (fun _ h9 => h9) rfl dX9_express_44 ?_
      obtain ⟨M47_182, hc47_183, h⟩ := sm_bd h
      refine sm_cv (va_runSN (As := [.ref (adr a1), .ref (adr ((a0 + 1) + 1 + (x3_6_172).toNatClampNeg)), .int ((M6_173 a0 1) - (M6_173 a1 ((M6_173 (a0 + 21) (x3_6_172).toNatClampNeg)).toNatClampNeg)), .int (M6_173 a0 1)]) (rest := []) ⟨hx, hb, hml, hown, hts⟩ (k_X11_bringMultiple l D cA adr hJ a1 ((a0 + 1) + 1 + (x3_6_172).toNatClampNeg) ((M6_173 a0 1) - (M6_173 a1 ((M6_173 (a0 + 21) (x3_6_172).toNatClampNeg)).toNatClampNeg)) (M6_173 a0 1) ha1 (te22 (t9_2 ha0) c35_180) M6_173 M47_182 hc47_183) ⟨va_cnB (host := "OrderMover") 4 hts gX9_express_X11_bringMultiple_n34 rfl rfl rfl (hE.2 (RX9, 34, yX11_bringMultiple, "OrderMover") (by decide +kernel)) (hts (.initialized RX11) (by decide +kernel)) (by decide +kernel) ⟨Nat.le_of_ble_eq_true rfl, Nat.le_of_ble_eq_true rfl⟩, hts (.static yX11_bringMultiple) (by decide +kernel), trivial⟩ ⟨smPc_bl, smPc_in [.ref (adr a1), .ref (adr ((a0 + 1) + 1 + (x3_6_172).toNatClampNeg)), .int ((M6_173 a0 1) - (M6_173 a1 ((M6_173 (a0 + 21) (x3_6_172).toNatClampNeg)).toNatClampNeg)), .int (M6_173 a0 1)] hE hP⟩ rfl rfl hl.1 rfl (lv_room (Nat.le_of_ble_eq_true rfl)) dX9_express_47 ⟨Nat.zero_le _, Nat.zero_le _⟩) hS (fun H locs hP hS => ?_)
      refine lv_aload_n hx hb dX9_express_50 rfl (lv_at hl 3 rfl) ?_
      refine lv_aload_n hx hb dX9_express_51 rfl (lv_at hl 1 rfl) ?_
      refine sm_get (ci := 9) (C := RX9) (T := TX9) (N := 5) (v := .ref (adr (a0 + 11))) hx hb hts hin9 hown hE hP ha0 rfl rfl 3 (by decide) (hts (.fieldLink RX9 16 "OrderMover$Span" "shares" "[[I") (by decide +kernel)) (fun _ h9 => h9) rfl dX9_express_52 ?_
      refine lv_iload_n hx hb dX9_express_55 rfl (lv_at hl 4 rfl) ?_
      obtain ⟨c56_184, h⟩ := sm_ck h
      refine sm_aald22 hx hb hE hP (t9_3 ha0) c56_184 dX9_express_56 ?_
      refine lv_iload hx hb dX9_express_57 (lv_at hl 0 rfl) ?_
      refine lv_aload_n hx hb dX9_express_59 rfl (lv_at hl 1 rfl) ?_
      refine sm_get (ci := 9) (C := RX9) (T := TX9) (N := 5) (v := .int (M47_182 a0 1)) hx hb hts hin9 hown hE hP ha0 rfl rfl 1 (by decide) (hts (.fieldLink RX9 27 "OrderMover$Span" "p" "I") (by decide +kernel)) (fun _ h9 => h9) rfl dX9_express_60 ?_
      obtain ⟨M63_186, hc63_187, h⟩ := sm_bd h
      refine sm_cv (va_runSN (As := [.ref (adr a2), .ref (adr ((a0 + 11) + 1 + (x3_6_172).toNatClampNeg)), .int (M6_173 a1 ((M6_173 (a0 + 21) (x3_6_172).toNatClampNeg)).toNatClampNeg), .int (M47_182 a0 1)]) (rest := []) ⟨hx, hb, hml, hown, hts⟩ (k_X11_bringMultiple l D cA adr hJ a2 ((a0 + 11) + 1 + (x3_6_172).toNatClampNeg) (M6_173 a1 ((M6_173 (a0 + 21) (x3_6_172).toNatClampNeg)).toNatClampNeg) (M47_182 a0 1) ha2 (te22 (t9_3 ha0) c56_184) M47_182 M63_186 hc63_187) ⟨va_cnB (host := "OrderMover") 4 hts gX9_express_X11_bringMultiple_n34 rfl rfl rfl (hE.2 (RX9, 34, yX11_bringMultiple, "OrderMover") (by decide +kernel)) (hts (.initialized RX11) (by decide +kernel)) (by decide +kernel) ⟨Nat.le_of_ble_eq_true rfl, Nat.le_of_ble_eq_true rfl⟩, hts (.static yX11_bringMultiple) (by decide +kernel), trivial⟩ ⟨smPc_bl, smPc_in [.ref (adr a2), .ref (adr ((a0 + 11) + 1 + (x3_6_172).toNatClampNeg)), .int (M6_173 a1 ((M6_173 (a0 + 21) (x3_6_172).toNatClampNeg)).toNatClampNeg), .int (M47_182 a0 1)] hE hP⟩ rfl rfl hl.1 rfl (lv_room (Nat.le_of_ble_eq_true rfl)) dX9_express_63 ⟨Nat.zero_le _, Nat.zero_le _⟩) hS (fun H locs hP hS => ?_)
      refine lv_iinc (v := (x3_6_172 + (1 : Int32))) (lv' := [(3, .int (x3_6_172 + (1 : Int32))), (4, .int (M6_173 a1 ((M6_173 (a0 + 21) (x3_6_172).toNatClampNeg)).toNatClampNeg)), (0, .ref (adr a0)), (1, .ref (adr a1)), (2, .ref (adr a2))]) hx hb dX9_express_66 hl (k := 4) rfl (congrArg (fun z => x3_6_172 + z) (by decide)) (by decide) rfl (fun ls hl => ?_)
      refine lv_goto (tgt := 6) hx hb dX9_express_69 (by decide) ?_
      exact ih6_175 ((x3_6_172 + (1 : Int32)), M63_186) _ _ _ h ⟨hP, hS, lv_sub hl [2, 3, 4, 0] rfl⟩
set_option maxHeartbeats 4000000 in
set_option maxRecDepth 100000 in
theorem k_X0_visit (l : Launch) (D : va_G) (cA : Nat → ClassId) (adr : Nat → Nat) (hJ : smJ 1 adr) (a0 : Nat) (a1 : Nat) (x2 : Int32) (ha0 : smT 1 a0 0) (ha1 : smT 1 a1 6) (M : smM) (M1 : smM) (h : m_X0_visit a0 a1 x2 M = some M1) : Met l yX0_visit wsX0_visit ({ frames := 2, cells := 0, slots := 0, locals := 50 }) (smPc D cA 1 adr M [.ref (adr a0), .ref (adr a1), .int x2]) (smQv D cA 1 adr M1) 0 0 (smA 1 adr) := by
  refine Met.ofW (cc := cX0_visit) (maxL := 6) (ret := none) (by decide) rfl ?_
  intro p e s m args below meth c s₁ B hml hv
  obtain ⟨rfl, hE, hP⟩ := hv
  have hx := B.exec
  have hb := B.bytes
  have hr := B.returns
  have hts := atoms_spec (ws := wsX0_visit) B.pre
  have hown : s.vm.findClass RX0 = some m.cls := findClass_of_methodNamed B.named
  have hlocks := B.notSynchronized
  have hS : va_S (smA 1 adr) s.heap s.heap [] := va_S.rf
  have hP : smP D cA 1 adr M s.heap := hP
  have hl := lv_entry ([.ref (adr a0), .ref (adr a1), .int x2]) (n := 6) (Nat.le_of_ble_eq_true rfl)
  rw [lg_entry_eq]
  generalize (lg_sl ([.ref (adr a0), .ref (adr a1), .int x2]) ++ List.replicate (6 - (lg_sl ([.ref (adr a0), .ref (adr a1), .int x2])).length) Slot.unset).toArray = ls at hl ⊢
  have hl : lv_has ls 6 [(0, .ref (adr a0)), (1, .ref (adr a1)), (2, .int x2)] := hl
  unfold m_X0_visit at h
  have hin0 : ∀ w ∈ u_ws RX0 TX0 9, w ∈ wsX0_visit := by decide +kernel
  have hin1 : ∀ w ∈ u_ws RX1 TX1 6, w ∈ wsX0_visit := by decide +kernel
  have hin6 : ∀ w ∈ u_ws RX6 TX6 5, w ∈ wsX0_visit := by decide +kernel
  have hin9 : ∀ w ∈ u_ws RX9 TX9 5, w ∈ wsX0_visit := by decide +kernel
  refine lv_aload_n hx hb dX0_visit_0 rfl (lv_at hl 0 rfl) ?_
  refine sm_get (ci := 0) (C := RX0) (T := TX0) (N := 9) (v := .ref (adr (a0 + 50))) hx hb hts hin0 hown hE hP ha0 rfl rfl 6 (by decide) (hts (.fieldLink RX0 47 "OrderMover$Base" "border" "LOrderMover$Border;") (by decide +kernel)) (fun _ h9 => h9) rfl dX0_visit_1 ?_
  refine sm_get (ci := 1) (C := RX1) (T := TX1) (N := 6) (v := .ref (adr ((a0 + 50) + 1))) hx hb hts hin1 hown hE hP (t0_6 ha0) rfl rfl 1 (by decide) (hts (.fieldLink RX0 80 "OrderMover$Border" "xs" "[I") (by decide +kernel)) (fun _ h9 => h9) rfl dX0_visit_4 ?_
  refine lv_iload_n hx hb dX0_visit_7 rfl (lv_at hl 2 rfl) ?_
  obtain ⟨c8_188, h⟩ := sm_ck h
  refine sm_iald hx hb hE hP (t1_1 (t0_6 ha0)) c8_188 dX0_visit_8 ?_
  refine lv_istore_n (lv' := [(3, .int (M ((a0 + 50) + 1) (x2).toNatClampNeg)), (0, .ref (adr a0)), (1, .ref (adr a1)), (2, .int x2)]) hx hb dX0_visit_9 rfl hl (by decide) rfl (fun ls hl => ?_)
  refine lv_aload_n hx hb dX0_visit_10 rfl (lv_at hl 1 rfl) ?_
  refine sm_get (ci := 0) (C := RX0) (T := TX0) (N := 9) (v := .ref (adr (a0 + 50))) hx hb hts hin0 hown hE hP ha0 rfl rfl 6 (by decide) (hts (.fieldLink RX0 47 "OrderMover$Base" "border" "LOrderMover$Border;") (by decide +kernel)) (fun _ h9 => h9) rfl dX0_visit_11 ?_
  refine sm_get (ci := 1) (C := RX1) (T := TX1) (N := 6) (v := .ref (adr ((a0 + 50) + 2))) hx hb hts hin1 hown hE hP (t0_6 ha0) rfl rfl 2 (by decide) (hts (.fieldLink RX0 83 "OrderMover$Border" "ys" "[I") (by decide +kernel)) (fun _ h9 => h9) rfl dX0_visit_14 ?_
  refine lv_iload_n hx hb dX0_visit_17 rfl (lv_at hl 3 rfl) ?_
  obtain ⟨c18_189, h⟩ := sm_ck h
  refine sm_iald hx hb hE hP (t1_2 (t0_6 ha0)) c18_189 dX0_visit_18 ?_
  refine lv_istore (lv' := [(4, .int (M ((a0 + 50) + 2) (x2).toNatClampNeg)), (3, .int (M ((a0 + 50) + 1) (x2).toNatClampNeg)), (0, .ref (adr a0)), (1, .ref (adr a1)), (2, .int x2)]) hx hb dX0_visit_19 hl (by decide) rfl (fun ls hl => ?_)
  refine lv_aload_n hx hb dX0_visit_21 rfl (lv_at hl 2 rfl) ?_
  refine sm_get (ci := 0) (C := RX0) (T := TX0) (N := 9) (v := .ref (adr (a0 + 50))) hx hb hts hin0 hown hE hP ha0 rfl rfl 6 (by decide) (hts (.fieldLink RX0 47 "OrderMover$Base" "border" "LOrderMover$Border;") (by decide +kernel)) (fun _ h9 => h9) rfl dX0_visit_22 ?_
  refine sm_get (ci := 1) (C := RX1) (T := TX1) (N := 6) (v := .ref (adr ((a0 + 50) + 3))) hx hb hts hin1 hown hE hP (t0_6 ha0) rfl rfl 3 (by decide) (hts (.fieldLink RX0 94 "OrderMover$Border" "below" "[I") (by decide +kernel)) (fun _ h9 => h9) rfl dX0_visit_25 ?_
  refine lv_iload_n hx hb dX0_visit_28 rfl (lv_at hl 4 rfl) ?_
  obtain ⟨c29_190, h⟩ := sm_ck h
  refine sm_iald hx hb hE hP (t1_3 (t0_6 ha0)) c29_190 dX0_visit_29 ?_
  refine sm_jn (x := M1) (T := fun (q : smM) => m_X0_visit_j75 a0 a1 (M ((a0 + 50) + 1) (x2).toNatClampNeg) (M ((a0 + 50) + 2) (x2).toNatClampNeg) q) (P := fun (q : smM) H locs ls => smP D cA 1 adr q H ∧ va_S (smA 1 adr) s.heap H locs ∧ lv_has ls 6 [(0, .ref (adr a0)), (1, .ref (adr a1)), (3, .int (M ((a0 + 50) + 1) (x2).toNatClampNeg)), (4, .int (M ((a0 + 50) + 2) (x2).toNatClampNeg))]) (st := fun (q : smM) => []) (pc := 75) ?_ (fun J75_192 => ?_)
  · intro q H locs ls h hI
    obtain ⟨M75_191, hq⟩ : ∃ y, y = q := ⟨_, rfl⟩; subst hq
    obtain ⟨hP, hS, hl⟩ := hI
    have hP : smP D cA 1 adr M75_191 H := hP
    have hl : lv_has ls 6 [(0, .ref (adr a0)), (1, .ref (adr a1)), (3, .int (M ((a0 + 50) + 1) (x2).toNatClampNeg)), (4, .int (M ((a0 + 50) + 2) (x2).toNatClampNeg))] := hl
    have h : m_X0_visit_j75 a0 a1 (M ((a0 + 50) + 1) (x2).toNatClampNeg) (M ((a0 + 50) + 2) (x2).toNatClampNeg) M75_191 = some _ := h
    unfold m_X0_visit_j75 at h
    refine W.eq (g2 := F0 m 75 ls []) rfl ?_
    refine lv_aload_n hx hb dX0_visit_75 rfl (lv_at hl 0 rfl) ?_
    refine sm_get (ci := 0) (C := RX0) (T := TX0) (N := 9) (v := .ref (adr (a0 + 16))) hx hb hts hin0 hown hE hP ha0 rfl rfl 2 (by decide) (hts (.fieldLink RX0 28 "OrderMover$Base" "span" "LOrderMover$Span;") (by decide +kernel)) (fun _ h9 => h9) rfl dX0_visit_76 ?_
    refine sm_get (ci := 9) (C := RX9) (T := TX9) (N := 5) (v := .int (M75_191 (a0 + 16) 0)) hx hb hts hin9 hown hE hP (t0_2 ha0) rfl rfl 0 (by decide) (hts (.fieldLink RX0 108 "OrderMover$Span" "howMany" "I") (by decide +kernel)) (fun _ h9 => h9) rfl dX0_visit_79 ?_
    refine lv_istore (lv' := [(5, .int (M75_191 (a0 + 16) 0)), (0, .ref (adr a0)), (1, .ref (adr a1)), (3, .int (M ((a0 + 50) + 1) (x2).toNatClampNeg)), (4, .int (M ((a0 + 50) + 2) (x2).toNatClampNeg))]) hx hb dX0_visit_82 hl (by decide) rfl (fun ls hl => ?_)
    refine lv_iload hx hb dX0_visit_84 (lv_at hl 0 rfl) ?_
    refine lv_bipush (v := (9 : Int32)) hx hb dX0_visit_86 (by decide) ?_
    refine sm_jn (x := M1) (T := fun (q : smM) => m_X0_visit_j120 a0 a1 (M ((a0 + 50) + 1) (x2).toNatClampNeg) (M ((a0 + 50) + 2) (x2).toNatClampNeg) (M75_191 (a0 + 16) 0) q) (P := fun (q : smM) H locs ls => smP D cA 1 adr q H ∧ va_S (smA 1 adr) s.heap H locs ∧ lv_has ls 6 [(0, .ref (adr a0)), (1, .ref (adr a1)), (3, .int (M ((a0 + 50) + 1) (x2).toNatClampNeg)), (4, .int (M ((a0 + 50) + 2) (x2).toNatClampNeg)), (5, .int (M75_191 (a0 + 16) 0))]) (st := fun (q : smM) => []) (pc := 120) ?_ (fun J120_194 => ?_)
    · intro q H locs ls h hI
      obtain ⟨M120_193, hq⟩ : ∃ y, y = q := ⟨_, rfl⟩; subst hq
      obtain ⟨hP, hS, hl⟩ := hI
      have hP : smP D cA 1 adr M120_193 H := hP
      have hl : lv_has ls 6 [(0, .ref (adr a0)), (1, .ref (adr a1)), (3, .int (M ((a0 + 50) + 1) (x2).toNatClampNeg)), (4, .int (M ((a0 + 50) + 2) (x2).toNatClampNeg)), (5, .int (M75_191 (a0 + 16) 0))] := hl
      have h : m_X0_visit_j120 a0 a1 (M ((a0 + 50) + 1) (x2).toNatClampNeg) (M ((a0 + 50) + 2) (x2).toNatClampNeg) (M75_191 (a0 + 16) 0) M120_193 = some _ := h
      unfold m_X0_visit_j120 at h
      refine W.eq (g2 := F0 m 120 ls []) rfl ?_
      refine lv_aload_n hx hb dX0_visit_120 rfl (lv_at hl 0 rfl) ?_
      refine sm_get (ci := 0) (C := RX0) (T := TX0) (N := 9) (v := .ref (adr (a0 + 16))) hx hb hts hin0 hown hE hP ha0 rfl rfl 2 (by decide) (hts (.fieldLink RX0 28 "OrderMover$Base" "span" "LOrderMover$Span;") (by decide +kernel)) (fun _ h9 => h9) rfl dX0_visit_121 ?_
      refine lv_aload_n hx hb dX0_visit_124 rfl (lv_at hl 0 rfl) ?_
      refine sm_get (ci := 0) (C := RX0) (T := TX0) (N := 9) (v := .ref (adr (a0 + 56))) hx hb hts hin0 hown hE hP ha0 rfl rfl 7 (by decide) (hts (.fieldLink RX0 51 "OrderMover$Base" "rest" "[I") (by decide +kernel)) (fun _ h9 => h9) rfl dX0_visit_125 ?_
      refine lv_aload_n hx hb dX0_visit_128 rfl (lv_at hl 0 rfl) ?_
      refine sm_get (ci := 0) (C := RX0) (T := TX0) (N := 9) (v := .ref (adr (a0 + 57))) hx hb hts hin0 hown hE hP ha0 rfl rfl 8 (by decide) (hts (.fieldLink RX0 54 "OrderMover$Base" "share" "[I") (by decide +kernel)) (fun _ h9 => h9) rfl dX0_visit_129 ?_
      obtain ⟨M132_196, hc132_197, h⟩ := sm_bd h
      refine sm_cv (va_runV (As := [.ref (adr (a0 + 56)), .ref (adr (a0 + 57))]) (rest := []) ⟨hx, hb, hml, hown, hts⟩ (k_X9_express l D cA adr hJ (a0 + 16) (a0 + 56) (a0 + 57) (t0_2 ha0) (t0_7 ha0) (t0_8 ha0) M120_193 M132_196 hc132_197) (cwV 2 hts gX0_visit_X9_express rfl rfl rfl (by decide +kernel) ⟨Nat.le_of_ble_eq_true rfl, Nat.le_of_ble_eq_true rfl⟩) ⟨smPc_bl, smRv hE hP (t0_2 ha0) rfl (ci := 9) (q := (RX9, TX9, 5)) rfl, smPc_in [.ref (adr (a0 + 16)), .ref (adr (a0 + 56)), .ref (adr (a0 + 57))] hE hP⟩ rfl rfl hl.1 rfl (lv_room (Nat.le_of_ble_eq_true rfl)) dX0_visit_132 ⟨Nat.zero_le _, Nat.zero_le _⟩) hS (fun H locs hP hS => ?_)
      refine lv_aload_n hx hb dX0_visit_135 rfl (lv_at hl 0 rfl) ?_
      refine sm_get (ci := 0) (C := RX0) (T := TX0) (N := 9) (v := .ref (adr (a0 + 56))) hx hb hts hin0 hown hE hP ha0 rfl rfl 7 (by decide) (hts (.fieldLink RX0 51 "OrderMover$Base" "rest" "[I") (by decide +kernel)) (fun _ h9 => h9) rfl dX0_visit_136 ?_
      obtain ⟨v139_198, hc139_200, h⟩ := sm_bd h
      refine sm_ci (va_runSN (As := [.ref (adr (a0 + 56))]) (rest := []) ⟨hx, hb, hml, hown, hts⟩ (k_X11_firstNotZero l D cA adr hJ (a0 + 56) (t0_7 ha0) M132_196 v139_198 hc139_200) ⟨va_cnB (host := "OrderMover") 1 hts gX0_visit_X11_firstNotZero_n120 rfl rfl rfl (hE.2 (RX0, 120, yX11_firstNotZero, "OrderMover") (by decide +kernel)) (hts (.initialized RX11) (by decide +kernel)) (by decide +kernel) ⟨Nat.le_of_ble_eq_true rfl, Nat.le_of_ble_eq_true rfl⟩, hts (.static yX11_firstNotZero) (by decide +kernel), trivial⟩ ⟨smPc_bl, smPc_in [.ref (adr (a0 + 56))] hE hP⟩ rfl rfl hl.1 rfl (lv_room (Nat.le_of_ble_eq_true rfl)) dX0_visit_139 ⟨Nat.zero_le _, Nat.zero_le _⟩) hS (fun H locs hP hS => ?_)
      refine lv_if_ge (tgt := 166) hx hb dX0_visit_142 (by decide) (fun c142_201 => ?_) (fun c142_201 => ?_)
      · rw [if_pos c142_201] at h
        refine lv_iload hx hb dX0_visit_166 (lv_at hl 4 rfl) ?_
        refine lv_bipush (v := (9 : Int32)) hx hb dX0_visit_168 (by decide) ?_
        refine lv_icmp_ge (tgt := 235) hx hb dX0_visit_170 (by decide) (fun c170_202 => ?_) (fun c170_202 => ?_)
        · rw [if_pos c170_202] at h
          cases h
          exact sm_vret hx hb hr hlocks hP hS dX0_visit_235
        · rw [if_neg c170_202] at h
          refine lv_aload_n hx hb dX0_visit_173 rfl (lv_at hl 0 rfl) ?_
          refine sm_get (ci := 0) (C := RX0) (T := TX0) (N := 9) (v := .ref (adr (a0 + 16))) hx hb hts hin0 hown hE hP ha0 rfl rfl 2 (by decide) (hts (.fieldLink RX0 28 "OrderMover$Base" "span" "LOrderMover$Span;") (by decide +kernel)) (fun _ h9 => h9) rfl dX0_visit_174 ?_
          refine lv_aload_n hx hb dX0_visit_177 rfl (lv_at hl 0 rfl) ?_
          refine sm_get (ci := 0) (C := RX0) (T := TX0) (N := 9) (v := .ref (adr (a0 + 56))) hx hb hts hin0 hown hE hP ha0 rfl rfl 7 (by decide) (hts (.fieldLink RX0 51 "OrderMover$Base" "rest" "[I") (by decide +kernel)) (fun _ h9 => h9) rfl dX0_visit_178 ?_
          refine lv_aload_n hx hb dX0_visit_181 rfl (lv_at hl 0 rfl) ?_
          refine sm_get (ci := 0) (C := RX0) (T := TX0) (N := 9) (v := .ref (adr (a0 + 57))) hx hb hts hin0 hown hE hP ha0 rfl rfl 8 (by decide) (hts (.fieldLink RX0 54 "OrderMover$Base" "share" "[I") (by decide +kernel)) (fun _ h9 => h9) rfl dX0_visit_182 ?_
          obtain ⟨M185_204, hc185_205, h⟩ := sm_bd h
          refine sm_cv (va_runV (As := [.ref (adr (a0 + 56)), .ref (adr (a0 + 57))]) (rest := []) ⟨hx, hb, hml, hown, hts⟩ (k_X9_absorb l D cA adr hJ (a0 + 16) (a0 + 56) (a0 + 57) (t0_2 ha0) (t0_7 ha0) (t0_8 ha0) M132_196 M185_204 hc185_205) (cwV 2 hts gX0_visit_X9_absorb rfl rfl rfl (by decide +kernel) ⟨Nat.le_of_ble_eq_true rfl, Nat.le_of_ble_eq_true rfl⟩) ⟨smPc_bl, smRv hE hP (t0_2 ha0) rfl (ci := 9) (q := (RX9, TX9, 5)) rfl, smPc_in [.ref (adr (a0 + 16)), .ref (adr (a0 + 56)), .ref (adr (a0 + 57))] hE hP⟩ rfl rfl hl.1 rfl (lv_room (Nat.le_of_ble_eq_true rfl)) dX0_visit_185 ⟨Nat.zero_le _, Nat.zero_le _⟩) hS (fun H locs hP hS => ?_)
          refine lv_aload_n hx hb dX0_visit_188 rfl (lv_at hl 0 rfl) ?_
          refine sm_get (ci := 0) (C := RX0) (T := TX0) (N := 9) (v := .ref (adr (a0 + 38))) hx hb hts hin0 hown hE hP ha0 rfl rfl 3 (by decide) (hts (.fieldLink RX0 32 "OrderMover$Base" "stairXs" "[I") (by decide +kernel)) (fun _ h9 => h9) rfl dX0_visit_189 ?_
          refine lv_iload hx hb dX0_visit_192 (lv_at hl 4 rfl) ?_
          refine lv_iload_n hx hb dX0_visit_194 rfl (lv_at hl 2 rfl) ?_
          obtain ⟨c195_206, h⟩ := sm_ck h
          refine sm_iast hx hb hE hJ hP hS (t0_3 ha0) c195_206 dX0_visit_195 (fun H locs hP hS => ?_)
          obtain ⟨M195_207, hM, h⟩ := sm_lt h
          rw [← hM] at hP; clear hM
          refine lv_aload_n hx hb dX0_visit_196 rfl (lv_at hl 0 rfl) ?_
          refine sm_get (ci := 0) (C := RX0) (T := TX0) (N := 9) (v := .ref (adr (a0 + 39))) hx hb hts hin0 hown hE hP ha0 rfl rfl 4 (by decide) (hts (.fieldLink RX0 36 "OrderMover$Base" "stairYs" "[I") (by decide +kernel)) (fun _ h9 => h9) rfl dX0_visit_197 ?_
          refine lv_iload hx hb dX0_visit_200 (lv_at hl 4 rfl) ?_
          refine lv_iload hx hb dX0_visit_202 (lv_at hl 3 rfl) ?_
          obtain ⟨c204_208, h⟩ := sm_ck h
          refine sm_iast hx hb hE hJ hP hS (t0_4 ha0) c204_208 dX0_visit_204 (fun H locs hP hS => ?_)
          obtain ⟨M204_209, hM, h⟩ := sm_lt h
          rw [← hM] at hP; clear hM
          refine lv_aload_n hx hb dX0_visit_205 rfl (lv_at hl 0 rfl) ?_
          refine sm_get (ci := 0) (C := RX0) (T := TX0) (N := 9) (v := .ref (adr (a0 + 50))) hx hb hts hin0 hown hE hP ha0 rfl rfl 6 (by decide) (hts (.fieldLink RX0 47 "OrderMover$Base" "border" "LOrderMover$Border;") (by decide +kernel)) (fun _ h9 => h9) rfl dX0_visit_206 ?_
          refine lv_iload_n hx hb dX0_visit_209 rfl (lv_at hl 2 rfl) ?_
          refine lv_iconst (v := (1 : Int32)) hx hb dX0_visit_210 (by decide) ?_
          refine lv_iadd hx hb dX0_visit_211 ?_
          refine lv_iload hx hb dX0_visit_212 (lv_at hl 3 rfl) ?_
          refine lv_iload hx hb dX0_visit_214 (lv_at hl 4 rfl) ?_
          refine lv_iconst (v := (0 : Int32)) hx hb dX0_visit_216 (by decide) ?_
          obtain ⟨M217_211, hc217_212, h⟩ := sm_bd h
          refine sm_cv (va_runV (As := [.int ((M ((a0 + 50) + 1) (x2).toNatClampNeg) + (1 : Int32)), .int (M ((a0 + 50) + 2) (x2).toNatClampNeg), .int (M75_191 (a0 + 16) 0), .int (0 : Int32)]) (rest := []) ⟨hx, hb, hml, hown, hts⟩ (k_X1_bring l D cA adr hJ (a0 + 50) ((M ((a0 + 50) + 1) (x2).toNatClampNeg) + (1 : Int32)) (M ((a0 + 50) + 2) (x2).toNatClampNeg) (M75_191 (a0 + 16) 0) (0 : Int32) (t0_6 ha0) M204_209 M217_211 hc217_212) (cwV 4 hts gX0_visit_X1_bring rfl rfl rfl (by decide +kernel) ⟨Nat.le_of_ble_eq_true rfl, Nat.le_of_ble_eq_true rfl⟩) ⟨smPc_bl, smRv hE hP (t0_6 ha0) rfl (ci := 1) (q := (RX1, TX1, 6)) rfl, smPc_in [.ref (adr (a0 + 50)), .int ((M ((a0 + 50) + 1) (x2).toNatClampNeg) + (1 : Int32)), .int (M ((a0 + 50) + 2) (x2).toNatClampNeg), .int (M75_191 (a0 + 16) 0), .int (0 : Int32)] hE hP⟩ rfl rfl hl.1 rfl (lv_room (Nat.le_of_ble_eq_true rfl)) dX0_visit_217 ⟨Nat.zero_le _, Nat.zero_le _⟩) hS (fun H locs hP hS => ?_)
          refine lv_aload_n hx hb dX0_visit_220 rfl (lv_at hl 0 rfl) ?_
          refine sm_get (ci := 0) (C := RX0) (T := TX0) (N := 9) (v := .ref (adr (a0 + 50))) hx hb hts hin0 hown hE hP ha0 rfl rfl 6 (by decide) (hts (.fieldLink RX0 47 "OrderMover$Base" "border" "LOrderMover$Border;") (by decide +kernel)) (fun _ h9 => h9) rfl dX0_visit_221 ?_
          refine lv_iload_n hx hb dX0_visit_224 rfl (lv_at hl 2 rfl) ?_
          refine lv_iload hx hb dX0_visit_225 (lv_at hl 3 rfl) ?_
          refine lv_iconst (v := (1 : Int32)) hx hb dX0_visit_227 (by decide) ?_
          refine lv_iadd hx hb dX0_visit_228 ?_
          refine lv_iload hx hb dX0_visit_229 (lv_at hl 4 rfl) ?_
          refine lv_iconst (v := (1 : Int32)) hx hb dX0_visit_231 (by decide) ?_
          obtain ⟨M232_214, hc232_215, h⟩ := sm_bd h
          refine sm_cv (va_runV (As := [.int (M ((a0 + 50) + 1) (x2).toNatClampNeg), .int ((M ((a0 + 50) + 2) (x2).toNatClampNeg) + (1 : Int32)), .int (M75_191 (a0 + 16) 0), .int (1 : Int32)]) (rest := []) ⟨hx, hb, hml, hown, hts⟩ (k_X1_bring l D cA adr hJ (a0 + 50) (M ((a0 + 50) + 1) (x2).toNatClampNeg) ((M ((a0 + 50) + 2) (x2).toNatClampNeg) + (1 : Int32)) (M75_191 (a0 + 16) 0) (1 : Int32) (t0_6 ha0) M217_211 M232_214 hc232_215) (cwV 4 hts gX0_visit_X1_bring rfl rfl rfl (by decide +kernel) ⟨Nat.le_of_ble_eq_true rfl, Nat.le_of_ble_eq_true rfl⟩) ⟨smPc_bl, smRv hE hP (t0_6 ha0) rfl (ci := 1) (q := (RX1, TX1, 6)) rfl, smPc_in [.ref (adr (a0 + 50)), .int (M ((a0 + 50) + 1) (x2).toNatClampNeg), .int ((M ((a0 + 50) + 2) (x2).toNatClampNeg) + (1 : Int32)), .int (M75_191 (a0 + 16) 0), .int (1 : Int32)] hE hP⟩ rfl rfl hl.1 rfl (lv_room (Nat.le_of_ble_eq_true rfl)) dX0_visit_232 ⟨Nat.zero_le _, Nat.zero_le _⟩) hS (fun H locs hP hS => ?_)
          cases h
          exact sm_vret hx hb hr hlocks hP hS dX0_visit_235
      · rw [if_neg c142_201] at h
        refine lv_aload_n hx hb dX0_visit_145 rfl (lv_at hl 0 rfl) ?_
        refine sm_get (ci := 0) (C := RX0) (T := TX0) (N := 9) (v := .ref (adr (a0 + 2))) hx hb hts hin0 hown hE hP ha0 rfl rfl 1 (by decide) (hts (.fieldLink RX0 21 "OrderMover$Base" "members" "LOrderMover$Members;") (by decide +kernel)) (fun _ h9 => h9) rfl dX0_visit_146 ?_
        refine lv_iload_n hx hb dX0_visit_149 rfl (lv_at hl 2 rfl) ?_
        refine lv_iload hx hb dX0_visit_150 (lv_at hl 3 rfl) ?_
        refine lv_aload_n hx hb dX0_visit_152 rfl (lv_at hl 0 rfl) ?_
        refine sm_get (ci := 0) (C := RX0) (T := TX0) (N := 9) (v := .ref (adr (a0 + 57))) hx hb hts hin0 hown hE hP ha0 rfl rfl 8 (by decide) (hts (.fieldLink RX0 54 "OrderMover$Base" "share" "[I") (by decide +kernel)) (fun _ h9 => h9) rfl dX0_visit_153 ?_
        refine lv_aload_n hx hb dX0_visit_156 rfl (lv_at hl 1 rfl) ?_
        refine sm_get (ci := 6) (C := RX6) (T := TX6) (N := 5) (v := .int (M132_196 a1 0)) hx hb hts hin6 hown hE hP ha1 rfl rfl 0 (by decide) (hts (.fieldLink RX0 65 "OrderMover$Quotient" "p" "I") (by decide +kernel)) (fun _ h9 => h9) rfl dX0_visit_157 ?_
        obtain ⟨M160_217, hc160_218, h⟩ := sm_bd h
        refine sm_cv (va_runV (As := [.int (M ((a0 + 50) + 1) (x2).toNatClampNeg), .int (M ((a0 + 50) + 2) (x2).toNatClampNeg), .ref (adr (a0 + 57)), .int (M132_196 a1 0)]) (rest := []) ⟨hx, hb, hml, hown, hts⟩ (k_X4_bring l D cA adr hJ (a0 + 2) (M ((a0 + 50) + 1) (x2).toNatClampNeg) (M ((a0 + 50) + 2) (x2).toNatClampNeg) (a0 + 57) (M132_196 a1 0) (t0_1 ha0) (t0_8 ha0) M132_196 M160_217 hc160_218) (cwV 4 hts gX0_visit_X4_bring rfl rfl rfl (by decide +kernel) ⟨Nat.le_of_ble_eq_true rfl, Nat.le_of_ble_eq_true rfl⟩) ⟨smPc_bl, smRv hE hP (t0_1 ha0) rfl (ci := 4) (q := (RX4, TX4, 4)) rfl, smPc_in [.ref (adr (a0 + 2)), .int (M ((a0 + 50) + 1) (x2).toNatClampNeg), .int (M ((a0 + 50) + 2) (x2).toNatClampNeg), .ref (adr (a0 + 57)), .int (M132_196 a1 0)] hE hP⟩ rfl rfl hl.1 rfl (lv_room (Nat.le_of_ble_eq_true rfl)) dX0_visit_160 ⟨Nat.zero_le _, Nat.zero_le _⟩) hS (fun H locs hP hS => ?_)
        refine lv_goto (tgt := 235) hx hb dX0_visit_163 (by decide) ?_
        cases h
        exact sm_vret hx hb hr hlocks hP hS dX0_visit_235
    refine lv_icmp_ge (tgt := 120) hx hb dX0_visit_88 (by decide) (fun c88_219 => ?_) (fun c88_219 => ?_)
    · rw [if_pos c88_219] at h
      exact J120_194 M75_191 _ _ _ h ⟨hP, hS, lv_sub hl [1, 2, 3, 4, 0] rfl⟩
    · rw [if_neg c88_219] at h
      refine lv_aload_n hx hb dX0_visit_91 rfl (lv_at hl 1 rfl) ?_
      refine sm_get (ci := 0) (C := RX0) (T := TX0) (N := 9) (v := .ref (adr (a0 + 40))) hx hb hts hin0 hown hE hP ha0 rfl rfl 5 (by decide) (hts (.fieldLink RX0 41 "OrderMover$Base" "vectors" "[[I") (by decide +kernel)) (fun _ h9 => h9) rfl dX0_visit_92 ?_
      refine lv_iload hx hb dX0_visit_95 (lv_at hl 0 rfl) ?_
      obtain ⟨c97_220, h⟩ := sm_ck h
      refine sm_aald22 hx hb hE hP (t0_5 ha0) c97_220 dX0_visit_97 ?_
      obtain ⟨M98_222, hc98_223, h⟩ := sm_bd h
      refine sm_cv (va_runSN (As := [.ref (adr ((a0 + 40) + 1 + ((M75_191 (a0 + 16) 0)).toNatClampNeg))]) (rest := []) ⟨hx, hb, hml, hown, hts⟩ (k_X11_clear l D cA adr hJ ((a0 + 40) + 1 + ((M75_191 (a0 + 16) 0)).toNatClampNeg) (te22 (t0_5 ha0) c97_220) M75_191 M98_222 hc98_223) ⟨va_cnB (host := "OrderMover") 1 hts gX0_visit_X11_clear_n109 rfl rfl rfl (hE.2 (RX0, 109, yX11_clear, "OrderMover") (by decide +kernel)) (hts (.initialized RX11) (by decide +kernel)) (by decide +kernel) ⟨Nat.le_of_ble_eq_true rfl, Nat.le_of_ble_eq_true rfl⟩, hts (.static yX11_clear) (by decide +kernel), trivial⟩ ⟨smPc_bl, smPc_in [.ref (adr ((a0 + 40) + 1 + ((M75_191 (a0 + 16) 0)).toNatClampNeg))] hE hP⟩ rfl rfl hl.1 rfl (lv_room (Nat.le_of_ble_eq_true rfl)) dX0_visit_98 ⟨Nat.zero_le _, Nat.zero_le _⟩) hS (fun H locs hP hS => ?_)
      refine lv_aload_n hx hb dX0_visit_101 rfl (lv_at hl 1 rfl) ?_
      refine sm_get (ci := 0) (C := RX0) (T := TX0) (N := 9) (v := .ref (adr (a0 + 40))) hx hb hts hin0 hown hE hP ha0 rfl rfl 5 (by decide) (hts (.fieldLink RX0 41 "OrderMover$Base" "vectors" "[[I") (by decide +kernel)) (fun _ h9 => h9) rfl dX0_visit_102 ?_
      refine lv_iload hx hb dX0_visit_105 (lv_at hl 0 rfl) ?_
      obtain ⟨c107_224, h⟩ := sm_ck h
      refine sm_aald22 hx hb hE hP (t0_5 ha0) c107_224 dX0_visit_107 ?_
      refine lv_aload_n hx hb dX0_visit_108 rfl (lv_at hl 1 rfl) ?_
      refine sm_get (ci := 0) (C := RX0) (T := TX0) (N := 9) (v := .ref (adr (a0 + 56))) hx hb hts hin0 hown hE hP ha0 rfl rfl 7 (by decide) (hts (.fieldLink RX0 51 "OrderMover$Base" "rest" "[I") (by decide +kernel)) (fun _ h9 => h9) rfl dX0_visit_109 ?_
      refine lv_iconst (v := (1 : Int32)) hx hb dX0_visit_112 (by decide) ?_
      refine lv_aload_n hx hb dX0_visit_113 rfl (lv_at hl 2 rfl) ?_
      refine sm_get (ci := 6) (C := RX6) (T := TX6) (N := 5) (v := .int (M98_222 a1 0)) hx hb hts hin6 hown hE hP ha1 rfl rfl 0 (by decide) (hts (.fieldLink RX0 65 "OrderMover$Quotient" "p" "I") (by decide +kernel)) (fun _ h9 => h9) rfl dX0_visit_114 ?_
      obtain ⟨M117_226, hc117_227, h⟩ := sm_bd h
      refine sm_cv (va_runSN (As := [.ref (adr ((a0 + 40) + 1 + ((M75_191 (a0 + 16) 0)).toNatClampNeg)), .ref (adr (a0 + 56)), .int (1 : Int32), .int (M98_222 a1 0)]) (rest := []) ⟨hx, hb, hml, hown, hts⟩ (k_X11_bringMultiple l D cA adr hJ ((a0 + 40) + 1 + ((M75_191 (a0 + 16) 0)).toNatClampNeg) (a0 + 56) (1 : Int32) (M98_222 a1 0) (te22 (t0_5 ha0) c107_224) (t0_7 ha0) M98_222 M117_226 hc117_227) ⟨va_cnB (host := "OrderMover") 4 hts gX0_visit_X11_bringMultiple_n112 rfl rfl rfl (hE.2 (RX0, 112, yX11_bringMultiple, "OrderMover") (by decide +kernel)) (hts (.initialized RX11) (by decide +kernel)) (by decide +kernel) ⟨Nat.le_of_ble_eq_true rfl, Nat.le_of_ble_eq_true rfl⟩, hts (.static yX11_bringMultiple) (by decide +kernel), trivial⟩ ⟨smPc_bl, smPc_in [.ref (adr ((a0 + 40) + 1 + ((M75_191 (a0 + 16) 0)).toNatClampNeg)), .ref (adr (a0 + 56)), .int (1 : Int32), .int (M98_222 a1 0)] hE hP⟩ rfl rfl hl.1 rfl (lv_room (Nat.le_of_ble_eq_true rfl)) dX0_visit_117 ⟨Nat.zero_le _, Nat.zero_le _⟩) hS (fun H locs hP hS => ?_)
      exact J120_194 M117_226 _ _ _ h ⟨hP, hS, lv_sub hl [1, 2, 3, 4, 0] rfl⟩
  refine lv_if_ge (tgt := 44) hx hb dX0_visit_30 (by decide) (fun c30_228 => ?_) (fun c30_228 => ?_)
  · rw [if_pos c30_228] at h
    refine lv_aload_n hx hb dX0_visit_44 rfl (lv_at hl 3 rfl) ?_
    refine lv_aload_n hx hb dX0_visit_45 rfl (lv_at hl 2 rfl) ?_
    refine sm_get (ci := 0) (C := RX0) (T := TX0) (N := 9) (v := .ref (adr (a0 + 50))) hx hb hts hin0 hown hE hP ha0 rfl rfl 6 (by decide) (hts (.fieldLink RX0 47 "OrderMover$Base" "border" "LOrderMover$Border;") (by decide +kernel)) (fun _ h9 => h9) rfl dX0_visit_46 ?_
    refine sm_get (ci := 1) (C := RX1) (T := TX1) (N := 6) (v := .ref (adr ((a0 + 50) + 4))) hx hb hts hin1 hown hE hP (t0_6 ha0) rfl rfl 4 (by decide) (hts (.fieldLink RX0 101 "OrderMover$Border" "unknowns" "[I") (by decide +kernel)) (fun _ h9 => h9) rfl dX0_visit_49 ?_
    refine lv_iload_n hx hb dX0_visit_52 rfl (lv_at hl 4 rfl) ?_
    obtain ⟨c53_229, h⟩ := sm_ck h
    refine sm_iald hx hb hE hP (t1_4 (t0_6 ha0)) c53_229 dX0_visit_53 ?_
    refine lv_aload_n hx hb dX0_visit_54 rfl (lv_at hl 2 rfl) ?_
    refine sm_get (ci := 0) (C := RX0) (T := TX0) (N := 9) (v := .ref (adr (a0 + 40))) hx hb hts hin0 hown hE hP ha0 rfl rfl 5 (by decide) (hts (.fieldLink RX0 41 "OrderMover$Base" "vectors" "[[I") (by decide +kernel)) (fun _ h9 => h9) rfl dX0_visit_55 ?_
    refine lv_aload_n hx hb dX0_visit_58 rfl (lv_at hl 2 rfl) ?_
    refine sm_get (ci := 0) (C := RX0) (T := TX0) (N := 9) (v := .ref (adr (a0 + 50))) hx hb hts hin0 hown hE hP ha0 rfl rfl 6 (by decide) (hts (.fieldLink RX0 47 "OrderMover$Base" "border" "LOrderMover$Border;") (by decide +kernel)) (fun _ h9 => h9) rfl dX0_visit_59 ?_
    refine sm_get (ci := 1) (C := RX1) (T := TX1) (N := 6) (v := .ref (adr ((a0 + 50) + 3))) hx hb hts hin1 hown hE hP (t0_6 ha0) rfl rfl 3 (by decide) (hts (.fieldLink RX0 94 "OrderMover$Border" "below" "[I") (by decide +kernel)) (fun _ h9 => h9) rfl dX0_visit_62 ?_
    refine lv_iload_n hx hb dX0_visit_65 rfl (lv_at hl 4 rfl) ?_
    obtain ⟨c66_230, h⟩ := sm_ck h
    refine sm_iald hx hb hE hP (t1_3 (t0_6 ha0)) c66_230 dX0_visit_66 ?_
    obtain ⟨c67_231, h⟩ := sm_ck h
    refine sm_aald22 hx hb hE hP (t0_5 ha0) c67_231 dX0_visit_67 ?_
    refine lv_aload_n hx hb dX0_visit_68 rfl (lv_at hl 2 rfl) ?_
    refine sm_get (ci := 0) (C := RX0) (T := TX0) (N := 9) (v := .ref (adr (a0 + 56))) hx hb hts hin0 hown hE hP ha0 rfl rfl 7 (by decide) (hts (.fieldLink RX0 51 "OrderMover$Base" "rest" "[I") (by decide +kernel)) (fun _ h9 => h9) rfl dX0_visit_69 ?_
    obtain ⟨M72_233, hc72_234, h⟩ := sm_bd h
    refine sm_cv (va_runV (As := [.int (M ((a0 + 50) + 4) (x2).toNatClampNeg), .ref (adr ((a0 + 40) + 1 + ((M ((a0 + 50) + 3) (x2).toNatClampNeg)).toNatClampNeg)), .ref (adr (a0 + 56))]) (rest := []) ⟨hx, hb, hml, hown, hts⟩ (k_X6_multiply l D cA adr hJ a1 (M ((a0 + 50) + 4) (x2).toNatClampNeg) ((a0 + 40) + 1 + ((M ((a0 + 50) + 3) (x2).toNatClampNeg)).toNatClampNeg) (a0 + 56) ha1 (te22 (t0_5 ha0) c67_231) (t0_7 ha0) M M72_233 hc72_234) (cwV 3 hts gX0_visit_X6_multiply rfl rfl rfl (by decide +kernel) ⟨Nat.le_of_ble_eq_true rfl, Nat.le_of_ble_eq_true rfl⟩) ⟨smPc_bl, smRv hE hP ha1 rfl (ci := 6) (q := (RX6, TX6, 5)) rfl, smPc_in [.ref (adr a1), .int (M ((a0 + 50) + 4) (x2).toNatClampNeg), .ref (adr ((a0 + 40) + 1 + ((M ((a0 + 50) + 3) (x2).toNatClampNeg)).toNatClampNeg)), .ref (adr (a0 + 56))] hE hP⟩ rfl rfl hl.1 rfl (lv_room (Nat.le_of_ble_eq_true rfl)) dX0_visit_72 ⟨Nat.zero_le _, Nat.zero_le _⟩) hS (fun H locs hP hS => ?_)
    exact J75_192 M72_233 _ _ _ h ⟨hP, hS, lv_sub hl [2, 3, 1, 0] rfl⟩
  · rw [if_neg c30_228] at h
    refine lv_aload_n hx hb dX0_visit_33 rfl (lv_at hl 3 rfl) ?_
    refine lv_aload_n hx hb dX0_visit_34 rfl (lv_at hl 2 rfl) ?_
    refine sm_get (ci := 0) (C := RX0) (T := TX0) (N := 9) (v := .ref (adr (a0 + 56))) hx hb hts hin0 hown hE hP ha0 rfl rfl 7 (by decide) (hts (.fieldLink RX0 51 "OrderMover$Base" "rest" "[I") (by decide +kernel)) (fun _ h9 => h9) rfl dX0_visit_35 ?_
    obtain ⟨M38_236, hc38_237, h⟩ := sm_bd h
    refine sm_cv (va_runV (As := [.ref (adr (a0 + 56))]) (rest := []) ⟨hx, hb, hml, hown, hts⟩ (k_X6_toOne l D cA adr hJ a1 (a0 + 56) ha1 (t0_7 ha0) M M38_236 hc38_237) (cwV 1 hts gX0_visit_X6_toOne rfl rfl rfl (by decide +kernel) ⟨Nat.le_of_ble_eq_true rfl, Nat.le_of_ble_eq_true rfl⟩) ⟨smPc_bl, smRv hE hP ha1 rfl (ci := 6) (q := (RX6, TX6, 5)) rfl, smPc_in [.ref (adr a1), .ref (adr (a0 + 56))] hE hP⟩ rfl rfl hl.1 rfl (lv_room (Nat.le_of_ble_eq_true rfl)) dX0_visit_38 ⟨Nat.zero_le _, Nat.zero_le _⟩) hS (fun H locs hP hS => ?_)
    refine lv_goto (tgt := 75) hx hb dX0_visit_41 (by decide) ?_
    exact J75_192 M38_236 _ _ _ h ⟨hP, hS, lv_sub hl [2, 3, 1, 0] rfl⟩
set_option maxHeartbeats 4000000 in
set_option maxRecDepth 100000 in
theorem k_X10_become (l : Launch) (D : va_G) (cA : Nat → ClassId) (adr : Nat → Nat) (hJ : smJ 1 adr) (a0 : Nat) (x1 : Int32) (x2 : Int32) (x3 : Int32) (ha0 : smT 1 a0 10) (M : smM) (M1 : smM) (h : m_X10_become a0 x1 x2 x3 M = some M1) : Met l yX10_become wsX10_become ({ frames := 0, cells := 0, slots := 0, locals := 0 }) (smPc D cA 1 adr M [.ref (adr a0), .int x1, .int x2, .int x3]) (smQv D cA 1 adr M1) 0 0 (smA 1 adr) := by
  refine Met.ofW (cc := cX10_become) (maxL := 4) (ret := none) (by decide) rfl ?_
  intro p e s m args below meth c s₁ B hml hv
  obtain ⟨rfl, hE, hP⟩ := hv
  have hx := B.exec
  have hb := B.bytes
  have hr := B.returns
  have hts := atoms_spec (ws := wsX10_become) B.pre
  have hown : s.vm.findClass RX10 = some m.cls := findClass_of_methodNamed B.named
  have hlocks := B.notSynchronized
  have hS : va_S (smA 1 adr) s.heap s.heap [] := va_S.rf
  have hP : smP D cA 1 adr M s.heap := hP
  have hl := lv_entry ([.ref (adr a0), .int x1, .int x2, .int x3]) (n := 4) (Nat.le_of_ble_eq_true rfl)
  rw [lg_entry_eq]
  generalize (lg_sl ([.ref (adr a0), .int x1, .int x2, .int x3]) ++ List.replicate (4 - (lg_sl ([.ref (adr a0), .int x1, .int x2, .int x3])).length) Slot.unset).toArray = ls at hl ⊢
  have hl : lv_has ls 4 [(0, .ref (adr a0)), (1, .int x1), (2, .int x2), (3, .int x3)] := hl
  unfold m_X10_become at h
  have hin10 : ∀ w ∈ u_ws RX10 TX10 3, w ∈ wsX10_become := by decide +kernel
  refine lv_aload_n hx hb dX10_become_0 rfl (lv_at hl 0 rfl) ?_
  refine lv_iload_n hx hb dX10_become_1 rfl (lv_at hl 1 rfl) ?_
  refine sm_put (ci := 10) (C := RX10) (T := TX10) (N := 3) (ty := .int) hx hb hts hin10 tyX10 tyX10_ok nmX10 hown hE hJ hP hS ha0 rfl rfl 0 (by decide) (hts (.fieldLink RX10 16 "OrderMover$TermOrder" "kind" "I") (by decide +kernel)) (fun _ h9 => h9) rfl (by decide +kernel) rfl rfl (Nat.le_of_ble_eq_true rfl) rfl dX10_become_2 (fun H locs hP hS => ?_)
  obtain ⟨M2_238, hM, h⟩ := sm_lt h
  rw [← hM] at hP; clear hM
  refine lv_aload_n hx hb dX10_become_5 rfl (lv_at hl 0 rfl) ?_
  refine lv_iload_n hx hb dX10_become_6 rfl (lv_at hl 2 rfl) ?_
  refine sm_put (ci := 10) (C := RX10) (T := TX10) (N := 3) (ty := .int) hx hb hts hin10 tyX10 tyX10_ok nmX10 hown hE hJ hP hS ha0 rfl rfl 1 (by decide) (hts (.fieldLink RX10 7 "OrderMover$TermOrder" "u" "I") (by decide +kernel)) (fun _ h9 => h9) rfl (by decide +kernel) rfl rfl (Nat.le_of_ble_eq_true rfl) rfl dX10_become_7 (fun H locs hP hS => ?_)
  obtain ⟨M7_239, hM, h⟩ := sm_lt h
  rw [← hM] at hP; clear hM
  refine lv_aload_n hx hb dX10_become_10 rfl (lv_at hl 0 rfl) ?_
  refine lv_iload_n hx hb dX10_become_11 rfl (lv_at hl 3 rfl) ?_
  refine sm_put (ci := 10) (C := RX10) (T := TX10) (N := 3) (ty := .int) hx hb hts hin10 tyX10 tyX10_ok nmX10 hown hE hJ hP hS ha0 rfl rfl 2 (by decide) (hts (.fieldLink RX10 13 "OrderMover$TermOrder" "v" "I") (by decide +kernel)) (fun _ h9 => h9) rfl (by decide +kernel) rfl rfl (Nat.le_of_ble_eq_true rfl) rfl dX10_become_12 (fun H locs hP hS => ?_)
  obtain ⟨M12_240, hM, h⟩ := sm_lt h
  rw [← hM] at hP; clear hM
  cases h
  exact sm_vret hx hb hr hlocks hP hS dX10_become_15
set_option maxHeartbeats 4000000 in
set_option maxRecDepth 100000 in
theorem k_X9_begin (l : Launch) (D : va_G) (cA : Nat → ClassId) (adr : Nat → Nat) (hJ : smJ 1 adr) (a0 : Nat) (x1 : Int32) (ha0 : smT 1 a0 9) (M : smM) (M1 : smM) (h : m_X9_begin a0 x1 M = some M1) : Met l yX9_begin wsX9_begin ({ frames := 0, cells := 0, slots := 0, locals := 0 }) (smPc D cA 1 adr M [.ref (adr a0), .int x1]) (smQv D cA 1 adr M1) 0 0 (smA 1 adr) := by
  refine Met.ofW (cc := cX9_begin) (maxL := 2) (ret := none) (by decide) rfl ?_
  intro p e s m args below meth c s₁ B hml hv
  obtain ⟨rfl, hE, hP⟩ := hv
  have hx := B.exec
  have hb := B.bytes
  have hr := B.returns
  have hts := atoms_spec (ws := wsX9_begin) B.pre
  have hown : s.vm.findClass RX9 = some m.cls := findClass_of_methodNamed B.named
  have hlocks := B.notSynchronized
  have hS : va_S (smA 1 adr) s.heap s.heap [] := va_S.rf
  have hP : smP D cA 1 adr M s.heap := hP
  have hl := lv_entry ([.ref (adr a0), .int x1]) (n := 2) (Nat.le_of_ble_eq_true rfl)
  rw [lg_entry_eq]
  generalize (lg_sl ([.ref (adr a0), .int x1]) ++ List.replicate (2 - (lg_sl ([.ref (adr a0), .int x1])).length) Slot.unset).toArray = ls at hl ⊢
  have hl : lv_has ls 2 [(0, .ref (adr a0)), (1, .int x1)] := hl
  unfold m_X9_begin at h
  have hin9 : ∀ w ∈ u_ws RX9 TX9 5, w ∈ wsX9_begin := by decide +kernel
  refine lv_aload_n hx hb dX9_begin_0 rfl (lv_at hl 0 rfl) ?_
  refine lv_iconst (v := (0 : Int32)) hx hb dX9_begin_1 (by decide) ?_
  refine sm_put (ci := 9) (C := RX9) (T := TX9) (N := 5) (ty := .int) hx hb hts hin9 tyX9 tyX9_ok nmX9 hown hE hJ hP hS ha0 rfl rfl 0 (by decide) (hts (.fieldLink RX9 23 "OrderMover$Span" "howMany" "I") (by decide +kernel)) (fun _ h9 => h9) rfl (by decide +kernel) rfl rfl (Nat.le_of_ble_eq_true rfl) rfl dX9_begin_2 (fun H locs hP hS => ?_)
  obtain ⟨M2_241, hM, h⟩ := sm_lt h
  rw [← hM] at hP; clear hM
  refine lv_aload_n hx hb dX9_begin_5 rfl (lv_at hl 0 rfl) ?_
  refine lv_iload_n hx hb dX9_begin_6 rfl (lv_at hl 1 rfl) ?_
  refine sm_put (ci := 9) (C := RX9) (T := TX9) (N := 5) (ty := .int) hx hb hts hin9 tyX9 tyX9_ok nmX9 hown hE hJ hP hS ha0 rfl rfl 1 (by decide) (hts (.fieldLink RX9 27 "OrderMover$Span" "p" "I") (by decide +kernel)) (fun _ h9 => h9) rfl (by decide +kernel) rfl rfl (Nat.le_of_ble_eq_true rfl) rfl dX9_begin_7 (fun H locs hP hS => ?_)
  obtain ⟨M7_242, hM, h⟩ := sm_lt h
  rw [← hM] at hP; clear hM
  cases h
  exact sm_vret hx hb hr hlocks hP hS dX9_begin_10
set_option maxHeartbeats 4000000 in
set_option maxRecDepth 100000 in
theorem k_X1_begin (l : Launch) (D : va_G) (cA : Nat → ClassId) (adr : Nat → Nat) (hJ : smJ 1 adr) (a0 : Nat) (ha0 : smT 1 a0 1) (M : smM) (M1 : smM) (h : m_X1_begin a0 M = some M1) : Met l yX1_begin wsX1_begin ({ frames := 2, cells := 0, slots := 0, locals := 47 }) (smPc D cA 1 adr M [.ref (adr a0)]) (smQv D cA 1 adr M1) 0 0 (smA 1 adr) := by
  refine Met.ofW (cc := cX1_begin) (maxL := 1) (ret := none) (by decide) rfl ?_
  intro p e s m args below meth c s₁ B hml hv
  obtain ⟨rfl, hE, hP⟩ := hv
  have hx := B.exec
  have hb := B.bytes
  have hr := B.returns
  have hts := atoms_spec (ws := wsX1_begin) B.pre
  have hown : s.vm.findClass RX1 = some m.cls := findClass_of_methodNamed B.named
  have hlocks := B.notSynchronized
  have hS : va_S (smA 1 adr) s.heap s.heap [] := va_S.rf
  have hP : smP D cA 1 adr M s.heap := hP
  have hl := lv_entry ([.ref (adr a0)]) (n := 1) (Nat.le_of_ble_eq_true rfl)
  rw [lg_entry_eq]
  generalize (lg_sl ([.ref (adr a0)]) ++ List.replicate (1 - (lg_sl ([.ref (adr a0)])).length) Slot.unset).toArray = ls at hl ⊢
  have hl : lv_has ls 1 [(0, .ref (adr a0))] := hl
  unfold m_X1_begin at h
  have hin1 : ∀ w ∈ u_ws RX1 TX1 6, w ∈ wsX1_begin := by decide +kernel
  refine lv_aload_n hx hb dX1_begin_0 rfl (lv_at hl 0 rfl) ?_
  refine lv_iconst (v := (0 : Int32)) hx hb dX1_begin_1 (by decide) ?_
  refine sm_put (ci := 1) (C := RX1) (T := TX1) (N := 6) (ty := .int) hx hb hts hin1 tyX1 tyX1_ok nmX1 hown hE hJ hP hS ha0 rfl rfl 0 (by decide) (hts (.fieldLink RX1 28 "OrderMover$Border" "howMany" "I") (by decide +kernel)) (fun _ h9 => h9) rfl (by decide +kernel) rfl rfl (Nat.le_of_ble_eq_true rfl) rfl dX1_begin_2 (fun H locs hP hS => ?_)
  obtain ⟨M2_243, hM, h⟩ := sm_lt h
  rw [← hM] at hP; clear hM
  refine lv_aload_n hx hb dX1_begin_5 rfl (lv_at hl 0 rfl) ?_
  refine lv_iconst (v := (0 : Int32)) hx hb dX1_begin_6 (by decide) ?_
  refine lv_iconst (v := (0 : Int32)) hx hb dX1_begin_7 (by decide) ?_
  refine lv_iconst (v := (-1 : Int32)) hx hb dX1_begin_8 (by decide) ?_
  refine lv_iconst (v := (0 : Int32)) hx hb dX1_begin_9 (by decide) ?_
  obtain ⟨M10_245, hc10_246, h⟩ := sm_bd h
  refine sm_cv (va_runV (As := [.int (0 : Int32), .int (0 : Int32), .int (-1 : Int32), .int (0 : Int32)]) (rest := []) ⟨hx, hb, hml, hown, hts⟩ (k_X1_bring l D cA adr hJ a0 (0 : Int32) (0 : Int32) (-1 : Int32) (0 : Int32) ha0 M2_243 M10_245 hc10_246) (cwV 4 hts gX1_begin_X1_bring rfl rfl rfl (by decide +kernel) ⟨Nat.le_of_ble_eq_true rfl, Nat.le_of_ble_eq_true rfl⟩) ⟨smPc_bl, smRv hE hP ha0 rfl (ci := 1) (q := (RX1, TX1, 6)) rfl, smPc_in [.ref (adr a0), .int (0 : Int32), .int (0 : Int32), .int (-1 : Int32), .int (0 : Int32)] hE hP⟩ rfl rfl hl.1 rfl (lv_room (Nat.le_of_ble_eq_true rfl)) dX1_begin_10 ⟨Nat.zero_le _, Nat.zero_le _⟩) hS (fun H locs hP hS => ?_)
  cases h
  exact sm_vret hx hb hr hlocks hP hS dX1_begin_13
set_option maxHeartbeats 4000000 in
set_option maxRecDepth 100000 in
theorem k_X4_leadTo (l : Launch) (D : va_G) (cA : Nat → ClassId) (adr : Nat → Nat) (hJ : smJ 1 adr) (a0 : Nat) (x1 : Int32) (x2 : Int32) (ha0 : smT 1 a0 4) (M : smM) (v1 : Int32) (h : m_X4_leadTo a0 x1 x2 M = some v1) : Met l yX4_leadTo wsX4_leadTo ({ frames := 0, cells := 0, slots := 0, locals := 0 }) (smPc D cA 1 adr M [.ref (adr a0), .int x1, .int x2]) (smQi D cA 1 adr M v1) 0 0 (smA 1 adr) := by
  refine Met.ofW (cc := cX4_leadTo) (maxL := 4) (ret := (some .boolean)) (by decide) rfl ?_
  intro p e s m args below meth c s₁ B hml hv
  obtain ⟨rfl, hE, hP⟩ := hv
  have hx := B.exec
  have hb := B.bytes
  have hr := B.returns
  have hts := atoms_spec (ws := wsX4_leadTo) B.pre
  have hown : s.vm.findClass RX4 = some m.cls := findClass_of_methodNamed B.named
  have hlocks := B.notSynchronized
  have hS : va_S (smA 1 adr) s.heap s.heap [] := va_S.rf
  have hP : smP D cA 1 adr M s.heap := hP
  have hl := lv_entry ([.ref (adr a0), .int x1, .int x2]) (n := 4) (Nat.le_of_ble_eq_true rfl)
  rw [lg_entry_eq]
  generalize (lg_sl ([.ref (adr a0), .int x1, .int x2]) ++ List.replicate (4 - (lg_sl ([.ref (adr a0), .int x1, .int x2])).length) Slot.unset).toArray = ls at hl ⊢
  have hl : lv_has ls 4 [(0, .ref (adr a0)), (1, .int x1), (2, .int x2)] := hl
  unfold m_X4_leadTo at h
  have hin4 : ∀ w ∈ u_ws RX4 TX4 4, w ∈ wsX4_leadTo := by decide +kernel
  refine lv_iconst (v := (0 : Int32)) hx hb dX4_leadTo_0 (by decide) ?_
  refine lv_istore_n (lv' := [(3, .int (0 : Int32)), (0, .ref (adr a0)), (1, .int x1), (2, .int x2)]) hx hb dX4_leadTo_1 rfl hl (by decide) rfl (fun ls hl => ?_)
  refine sm_lp (b := fun rc q => m_X4_leadTo_b2 a0 x1 x2 M rc q) (P := fun (q : Int32) H locs ls => smP D cA 1 adr M H ∧ va_S (smA 1 adr) s.heap H locs ∧ lv_has ls 4 [(0, .ref (adr a0)), (1, .int x1), (2, .int x2), (3, .int q)]) (pc := 2) ?_ _ _ _ _ _ h ⟨hP, hS, lv_sub hl [1, 2, 3, 0] rfl⟩
  intro rc2_248 ih2_249 q H locs ls h hI
  obtain ⟨x3_2_247, hq⟩ : ∃ y, y = q := ⟨_, rfl⟩; subst hq
  obtain ⟨hP, hS, hl⟩ := hI
  have hP : smP D cA 1 adr M H := hP
  have hl : lv_has ls 4 [(0, .ref (adr a0)), (1, .int x1), (2, .int x2), (3, .int x3_2_247)] := hl
  have h : m_X4_leadTo_b2 a0 x1 x2 M rc2_248 x3_2_247 = some _ := h
  unfold m_X4_leadTo_b2 at h
  refine lv_iload_n hx hb dX4_leadTo_2 rfl (lv_at hl 3 rfl) ?_
  refine lv_aload_n hx hb dX4_leadTo_3 rfl (lv_at hl 0 rfl) ?_
  refine sm_get (ci := 4) (C := RX4) (T := TX4) (N := 4) (v := .int (M a0 0)) hx hb hts hin4 hown hE hP ha0 rfl rfl 0 (by decide) (hts (.fieldLink RX4 23 "OrderMover$Members" "howMany" "I") (by decide +kernel)) (fun _ h9 => h9) rfl dX4_leadTo_4 ?_
  refine lv_icmp_ge (tgt := 38) hx hb dX4_leadTo_7 (by decide) (fun c7_250 => ?_) (fun c7_250 => ?_)
  · rw [if_pos c7_250] at h
    refine lv_iconst (v := (0 : Int32)) hx hb dX4_leadTo_38 (by decide) ?_
    cases h
    exact sm_zret (by first | rfl | decide) hx hb hr hlocks hP hS dX4_leadTo_39
  · rw [if_neg c7_250] at h
    refine lv_aload_n hx hb dX4_leadTo_10 rfl (lv_at hl 0 rfl) ?_
    refine sm_get (ci := 4) (C := RX4) (T := TX4) (N := 4) (v := .ref (adr (a0 + 1))) hx hb hts hin4 hown hE hP ha0 rfl rfl 1 (by decide) (hts (.fieldLink RX4 9 "OrderMover$Members" "xs" "[I") (by decide +kernel)) (fun _ h9 => h9) rfl dX4_leadTo_11 ?_
    refine lv_iload_n hx hb dX4_leadTo_14 rfl (lv_at hl 3 rfl) ?_
    obtain ⟨c15_251, h⟩ := sm_ck h
    refine sm_iald hx hb hE hP (t4_1 ha0) c15_251 dX4_leadTo_15 ?_
    refine lv_iload_n hx hb dX4_leadTo_16 rfl (lv_at hl 1 rfl) ?_
    refine lv_icmp_gt (tgt := 32) hx hb dX4_leadTo_17 (by decide) (fun c17_252 => ?_) (fun c17_252 => ?_)
    · rw [if_pos c17_252] at h
      refine lv_iinc (v := (x3_2_247 + (1 : Int32))) (lv' := [(3, .int (x3_2_247 + (1 : Int32))), (0, .ref (adr a0)), (1, .int x1), (2, .int x2)]) hx hb dX4_leadTo_32 hl (k := 3) rfl (congrArg (fun z => x3_2_247 + z) (by decide)) (by decide) rfl (fun ls hl => ?_)
      refine lv_goto (tgt := 2) hx hb dX4_leadTo_35 (by decide) ?_
      exact ih2_249 (x3_2_247 + (1 : Int32)) _ _ _ h ⟨hP, hS, lv_sub hl [1, 2, 3, 0] rfl⟩
    · rw [if_neg c17_252] at h
      refine lv_aload_n hx hb dX4_leadTo_20 rfl (lv_at hl 0 rfl) ?_
      refine sm_get (ci := 4) (C := RX4) (T := TX4) (N := 4) (v := .ref (adr (a0 + 2))) hx hb hts hin4 hown hE hP ha0 rfl rfl 2 (by decide) (hts (.fieldLink RX4 15 "OrderMover$Members" "ys" "[I") (by decide +kernel)) (fun _ h9 => h9) rfl dX4_leadTo_21 ?_
      refine lv_iload_n hx hb dX4_leadTo_24 rfl (lv_at hl 3 rfl) ?_
      obtain ⟨c25_253, h⟩ := sm_ck h
      refine sm_iald hx hb hE hP (t4_2 ha0) c25_253 dX4_leadTo_25 ?_
      refine lv_iload_n hx hb dX4_leadTo_26 rfl (lv_at hl 2 rfl) ?_
      refine lv_icmp_gt (tgt := 32) hx hb dX4_leadTo_27 (by decide) (fun c27_254 => ?_) (fun c27_254 => ?_)
      · rw [if_pos c27_254] at h
        refine lv_iinc (v := (x3_2_247 + (1 : Int32))) (lv' := [(3, .int (x3_2_247 + (1 : Int32))), (0, .ref (adr a0)), (1, .int x1), (2, .int x2)]) hx hb dX4_leadTo_32 hl (k := 3) rfl (congrArg (fun z => x3_2_247 + z) (by decide)) (by decide) rfl (fun ls hl => ?_)
        refine lv_goto (tgt := 2) hx hb dX4_leadTo_35 (by decide) ?_
        exact ih2_249 (x3_2_247 + (1 : Int32)) _ _ _ h ⟨hP, hS, lv_sub hl [1, 2, 3, 0] rfl⟩
      · rw [if_neg c27_254] at h
        refine lv_iconst (v := (1 : Int32)) hx hb dX4_leadTo_30 (by decide) ?_
        cases h
        exact sm_zret (by first | rfl | decide) hx hb hr hlocks hP hS dX4_leadTo_31
set_option maxHeartbeats 4000000 in
set_option maxRecDepth 100000 in
theorem k_X10_weight (l : Launch) (D : va_G) (cA : Nat → ClassId) (adr : Nat → Nat) (hJ : smJ 1 adr) (a0 : Nat) (x1 : Int32) (x2 : Int32) (ha0 : smT 1 a0 10) (M : smM) (v1 : Int64) (h : m_X10_weight a0 x1 x2 M = some v1) : Met l yX10_weight wsX10_weight ({ frames := 0, cells := 0, slots := 0, locals := 0 }) (smPc D cA 1 adr M [.ref (adr a0), .int x1, .int x2]) (smQl D cA 1 adr M v1) 0 0 (smA 1 adr) := by
  refine Met.ofW (cc := cX10_weight) (maxL := 3) (ret := (some .long)) (by decide) rfl ?_
  intro p e s m args below meth c s₁ B hml hv
  obtain ⟨rfl, hE, hP⟩ := hv
  have hx := B.exec
  have hb := B.bytes
  have hr := B.returns
  have hts := atoms_spec (ws := wsX10_weight) B.pre
  have hown : s.vm.findClass RX10 = some m.cls := findClass_of_methodNamed B.named
  have hlocks := B.notSynchronized
  have hS : va_S (smA 1 adr) s.heap s.heap [] := va_S.rf
  have hP : smP D cA 1 adr M s.heap := hP
  have hl := lv_entry ([.ref (adr a0), .int x1, .int x2]) (n := 3) (Nat.le_of_ble_eq_true rfl)
  rw [lg_entry_eq]
  generalize (lg_sl ([.ref (adr a0), .int x1, .int x2]) ++ List.replicate (3 - (lg_sl ([.ref (adr a0), .int x1, .int x2])).length) Slot.unset).toArray = ls at hl ⊢
  have hl : lv_has ls 3 [(0, .ref (adr a0)), (1, .int x1), (2, .int x2)] := hl
  unfold m_X10_weight at h
  have hin10 : ∀ w ∈ u_ws RX10 TX10 3, w ∈ wsX10_weight := by decide +kernel
  refine lv_aload_n hx hb dX10_weight_0 rfl (lv_at hl 0 rfl) ?_
  refine sm_get (ci := 10) (C := RX10) (T := TX10) (N := 3) (v := .int (M a0 0)) hx hb hts hin10 hown hE hP ha0 rfl rfl 0 (by decide) (hts (.fieldLink RX10 16 "OrderMover$TermOrder" "kind" "I") (by decide +kernel)) (fun _ h9 => h9) rfl dX10_weight_1 ?_
  by_cases c4_255 : (M a0 0) = (2 : Int32)
  · rw [if_pos c4_255] at h
    refine lv_tableIn (tgt := 32) hx hb dX10_weight_4 (by rw [c4_255]; decide) (by rw [c4_255]; decide) (by rw [c4_255]; rfl) (by decide) ?_
    refine lv_iload_n hx hb dX10_weight_32 rfl (lv_at hl 1 rfl) ?_
    refine lv_i2l hx hb dX10_weight_33 rfl ?_
    refine lv_iload_n hx hb dX10_weight_34 rfl (lv_at hl 2 rfl) ?_
    refine lv_i2l hx hb dX10_weight_35 rfl ?_
    refine lv_ladd hx hb dX10_weight_36 ?_
    cases h
    exact sm_lret hx hb hr hlocks hP hS dX10_weight_37
  rw [if_neg c4_255] at h
  by_cases c4_256 : (M a0 0) = (3 : Int32)
  · rw [if_pos c4_256] at h
    refine lv_tableIn (tgt := 32) hx hb dX10_weight_4 (by rw [c4_256]; decide) (by rw [c4_256]; decide) (by rw [c4_256]; rfl) (by decide) ?_
    refine lv_iload_n hx hb dX10_weight_32 rfl (lv_at hl 1 rfl) ?_
    refine lv_i2l hx hb dX10_weight_33 rfl ?_
    refine lv_iload_n hx hb dX10_weight_34 rfl (lv_at hl 2 rfl) ?_
    refine lv_i2l hx hb dX10_weight_35 rfl ?_
    refine lv_ladd hx hb dX10_weight_36 ?_
    cases h
    exact sm_lret hx hb hr hlocks hP hS dX10_weight_37
  rw [if_neg c4_256] at h
  by_cases c4_257 : (M a0 0) = (4 : Int32)
  · rw [if_pos c4_257] at h
    refine lv_tableIn (tgt := 38) hx hb dX10_weight_4 (by rw [c4_257]; decide) (by rw [c4_257]; decide) (by rw [c4_257]; rfl) (by decide) ?_
    refine lv_aload_n hx hb dX10_weight_38 rfl (lv_at hl 0 rfl) ?_
    refine sm_get (ci := 10) (C := RX10) (T := TX10) (N := 3) (v := .int (M a0 1)) hx hb hts hin10 hown hE hP ha0 rfl rfl 1 (by decide) (hts (.fieldLink RX10 7 "OrderMover$TermOrder" "u" "I") (by decide +kernel)) (fun _ h9 => h9) rfl dX10_weight_39 ?_
    refine lv_i2l hx hb dX10_weight_42 rfl ?_
    refine lv_iload_n hx hb dX10_weight_43 rfl (lv_at hl 1 rfl) ?_
    refine lv_i2l hx hb dX10_weight_44 rfl ?_
    refine lv_lmul hx hb dX10_weight_45 ?_
    refine lv_aload_n hx hb dX10_weight_46 rfl (lv_at hl 0 rfl) ?_
    refine sm_get (ci := 10) (C := RX10) (T := TX10) (N := 3) (v := .int (M a0 2)) hx hb hts hin10 hown hE hP ha0 rfl rfl 2 (by decide) (hts (.fieldLink RX10 13 "OrderMover$TermOrder" "v" "I") (by decide +kernel)) (fun _ h9 => h9) rfl dX10_weight_47 ?_
    refine lv_i2l hx hb dX10_weight_50 rfl ?_
    refine lv_iload_n hx hb dX10_weight_51 rfl (lv_at hl 2 rfl) ?_
    refine lv_i2l hx hb dX10_weight_52 rfl ?_
    refine lv_lmul hx hb dX10_weight_53 ?_
    refine lv_ladd hx hb dX10_weight_54 ?_
    cases h
    exact sm_lret hx hb hr hlocks hP hS dX10_weight_55
  rw [if_neg c4_257] at h
  have qc4_255 := sm_ne (j := 2) c4_255 (by decide)
  have qc4_256 := sm_ne (j := 3) c4_256 (by decide)
  have qc4_257 := sm_ne (j := 4) c4_257 (by decide)
  refine lv_tableOut (tgt := 56) hx hb dX10_weight_4 (by omega) (by decide) ?_
  refine lv_lconst (v := (0 : Int64)) hx hb dX10_weight_56 (by decide) ?_
  cases h
  exact sm_lret hx hb hr hlocks hP hS dX10_weight_57
