set_option maxHeartbeats 4000000 in
set_option maxRecDepth 100000 in
theorem k_X10_isLess (l : Launch) (D : va_G) (cA : Nat → ClassId) (adr : Nat → Nat) (hJ : smJ 1 adr) (a0 : Nat) (x1 : Int32) (x2 : Int32) (x3 : Int32) (x4 : Int32) (ha0 : smT 1 a0 10) (M : smM) (v1 : Int32) (h : m_X10_isLess a0 x1 x2 x3 x4 M = some v1) : Met l yX10_isLess wsX10_isLess ({ frames := 1, cells := 0, slots := 0, locals := 22 }) (smPc D cA 1 adr M [.ref (adr a0), .int x1, .int x2, .int x3, .int x4]) (smQi D cA 1 adr M v1) 0 0 (smA 1 adr) := by
  refine Met.ofW (cc := cX10_isLess) (maxL := 10) (ret := (some .boolean)) (by decide) rfl ?_
  intro p e s m args below meth c s₁ B hml hv
  obtain ⟨rfl, hE, hP⟩ := hv
  have hx := B.exec
  have hb := B.bytes
  have hr := B.returns
  have hts := atoms_spec (ws := wsX10_isLess) B.pre
  have hown : s.vm.findClass RX10 = some m.cls := findClass_of_methodNamed B.named
  have hlocks := B.notSynchronized
  have hS : va_S (smA 1 adr) s.heap s.heap [] := va_S.rf
  have hP : smP D cA 1 adr M s.heap := hP
  have hl := lv_entry ([.ref (adr a0), .int x1, .int x2, .int x3, .int x4]) (n := 10) (Nat.le_of_ble_eq_true rfl)
  rw [lg_entry_eq]
  generalize (lg_sl ([.ref (adr a0), .int x1, .int x2, .int x3, .int x4]) ++ List.replicate (10 - (lg_sl ([.ref (adr a0), .int x1, .int x2, .int x3, .int x4])).length) Slot.unset).toArray = ls at hl ⊢
  have hl : lv_has ls 10 [(0, .ref (adr a0)), (1, .int x1), (2, .int x2), (3, .int x3), (4, .int x4)] := hl
  unfold m_X10_isLess at h
  have hin10 : ∀ w ∈ u_ws RX10 TX10 3, w ∈ wsX10_isLess := by decide +kernel
  refine lv_aload_n hx hb dX10_isLess_0 rfl (lv_at hl 0 rfl) ?_
  refine lv_iload_n hx hb dX10_isLess_1 rfl (lv_at hl 1 rfl) ?_
  refine lv_iload_n hx hb dX10_isLess_2 rfl (lv_at hl 2 rfl) ?_
  obtain ⟨v3_258, hc3_260, h⟩ := sm_bd h
  refine sm_cl (va_runV (As := [.int x1, .int x2]) (rest := []) ⟨hx, hb, hml, hown, hts⟩ (k_X10_weight l D cA adr hJ a0 x1 x2 ha0 M v3_258 hc3_260) (cwV 2 hts gX10_isLess_X10_weight rfl rfl rfl (by decide +kernel) ⟨Nat.le_of_ble_eq_true rfl, Nat.le_of_ble_eq_true rfl⟩) ⟨smPc_bl, smRv hE hP ha0 rfl (ci := 10) (q := (RX10, TX10, 3)) rfl, smPc_in [.ref (adr a0), .int x1, .int x2] hE hP⟩ rfl rfl hl.1 rfl (lv_room (Nat.le_of_ble_eq_true rfl)) dX10_isLess_3 ⟨Nat.zero_le _, Nat.zero_le _⟩) hS (fun H locs hP hS => ?_)
  refine lv_lstore (lv' := [(5, .long v3_258), (0, .ref (adr a0)), (1, .int x1), (2, .int x2), (3, .int x3), (4, .int x4)]) hx hb dX10_isLess_6 hl (by decide) rfl (fun ls hl => ?_)
  refine lv_aload_n hx hb dX10_isLess_8 rfl (lv_at hl 1 rfl) ?_
  refine lv_iload_n hx hb dX10_isLess_9 rfl (lv_at hl 4 rfl) ?_
  refine lv_iload hx hb dX10_isLess_10 (lv_at hl 5 rfl) ?_
  obtain ⟨v12_261, hc12_263, h⟩ := sm_bd h
  refine sm_cl (va_runV (As := [.int x3, .int x4]) (rest := []) ⟨hx, hb, hml, hown, hts⟩ (k_X10_weight l D cA adr hJ a0 x3 x4 ha0 M v12_261 hc12_263) (cwV 2 hts gX10_isLess_X10_weight rfl rfl rfl (by decide +kernel) ⟨Nat.le_of_ble_eq_true rfl, Nat.le_of_ble_eq_true rfl⟩) ⟨smPc_bl, smRv hE hP ha0 rfl (ci := 10) (q := (RX10, TX10, 3)) rfl, smPc_in [.ref (adr a0), .int x3, .int x4] hE hP⟩ rfl rfl hl.1 rfl (lv_room (Nat.le_of_ble_eq_true rfl)) dX10_isLess_12 ⟨Nat.zero_le _, Nat.zero_le _⟩) hS (fun H locs hP hS => ?_)
  refine lv_lstore (lv' := [(7, .long v12_261), (5, .long v3_258), (0, .ref (adr a0)), (1, .int x1), (2, .int x2), (3, .int x3), (4, .int x4)]) hx hb dX10_isLess_15 hl (by decide) rfl (fun ls hl => ?_)
  refine lv_lload hx hb dX10_isLess_17 (lv_at hl 1 rfl) ?_
  refine lv_lload hx hb dX10_isLess_19 (lv_at hl 0 rfl) ?_
  refine W.lcmp hx hb dX10_isLess_21 ?_
  refine lv_if_eq (tgt := 39) hx hb dX10_isLess_22 (by decide) (fun c22_264 => ?_) (fun c22_264 => ?_)
  · rw [if_pos c22_264] at h
    refine lv_aload_n hx hb dX10_isLess_39 rfl (lv_at hl 2 rfl) ?_
    refine sm_get (ci := 10) (C := RX10) (T := TX10) (N := 3) (v := .int (M a0 0)) hx hb hts hin10 hown hE hP ha0 rfl rfl 0 (by decide) (hts (.fieldLink RX10 16 "OrderMover$TermOrder" "kind" "I") (by decide +kernel)) (fun _ h9 => h9) rfl dX10_isLess_40 ?_
    refine lv_iconst (v := (1 : Int32)) hx hb dX10_isLess_43 (by decide) ?_
    refine sm_jn (x := v1) (T := fun (q : Int32) => m_X10_isLess_j60 x1 x2 x3 x4 M q) (P := fun (q : Int32) H locs ls => smP D cA 1 adr M H ∧ va_S (smA 1 adr) s.heap H locs ∧ lv_has ls 10 [(1, .int x1), (2, .int x2), (3, .int x3), (4, .int x4)]) (st := fun (q : Int32) => [.int q]) (pc := 60) ?_ (fun J60_266 => ?_)
    · intro q H locs ls h hI
      obtain ⟨s0_60_265, hq⟩ : ∃ y, y = q := ⟨_, rfl⟩; subst hq
      obtain ⟨hP, hS, hl⟩ := hI
      have hP : smP D cA 1 adr M H := hP
      have hl : lv_has ls 10 [(1, .int x1), (2, .int x2), (3, .int x3), (4, .int x4)] := hl
      have h : m_X10_isLess_j60 x1 x2 x3 x4 M s0_60_265 = some _ := h
      unfold m_X10_isLess_j60 at h
      refine W.eq (g2 := F0 m 60 ls [.int s0_60_265]) rfl ?_
      refine lv_istore (lv' := [(9, .int s0_60_265), (1, .int x1), (2, .int x2), (3, .int x3), (4, .int x4)]) hx hb dX10_isLess_60 hl (by decide) rfl (fun ls hl => ?_)
      refine lv_iload hx hb dX10_isLess_62 (lv_at hl 0 rfl) ?_
      refine lv_if_eq (tgt := 98) hx hb dX10_isLess_64 (by decide) (fun c64_267 => ?_) (fun c64_267 => ?_)
      · rw [if_pos c64_267] at h
        refine lv_iload_n hx hb dX10_isLess_98 rfl (lv_at hl 1 rfl) ?_
        refine lv_iload_n hx hb dX10_isLess_99 rfl (lv_at hl 3 rfl) ?_
        refine lv_icmp_eq (tgt := 116) hx hb dX10_isLess_100 (by decide) (fun c100_268 => ?_) (fun c100_268 => ?_)
        · rw [if_pos c100_268] at h
          refine lv_iload_n hx hb dX10_isLess_116 rfl (lv_at hl 2 rfl) ?_
          refine lv_iload hx hb dX10_isLess_117 (lv_at hl 4 rfl) ?_
          refine lv_icmp_ge (tgt := 126) hx hb dX10_isLess_119 (by decide) (fun c119_269 => ?_) (fun c119_269 => ?_)
          · rw [if_pos c119_269] at h
            refine lv_iconst (v := (0 : Int32)) hx hb dX10_isLess_126 (by decide) ?_
            cases h
            exact sm_zret (by first | rfl | decide) hx hb hr hlocks hP hS dX10_isLess_127
          · rw [if_neg c119_269] at h
            refine lv_iconst (v := (1 : Int32)) hx hb dX10_isLess_122 (by decide) ?_
            refine lv_goto (tgt := 127) hx hb dX10_isLess_123 (by decide) ?_
            cases h
            exact sm_zret (by first | rfl | decide) hx hb hr hlocks hP hS dX10_isLess_127
        · rw [if_neg c100_268] at h
          refine lv_iload_n hx hb dX10_isLess_103 rfl (lv_at hl 1 rfl) ?_
          refine lv_iload_n hx hb dX10_isLess_104 rfl (lv_at hl 3 rfl) ?_
          refine lv_icmp_ge (tgt := 112) hx hb dX10_isLess_105 (by decide) (fun c105_270 => ?_) (fun c105_270 => ?_)
          · rw [if_pos c105_270] at h
            refine lv_iconst (v := (0 : Int32)) hx hb dX10_isLess_112 (by decide) ?_
            refine lv_goto (tgt := 127) hx hb dX10_isLess_113 (by decide) ?_
            cases h
            exact sm_zret (by first | rfl | decide) hx hb hr hlocks hP hS dX10_isLess_127
          · rw [if_neg c105_270] at h
            refine lv_iconst (v := (1 : Int32)) hx hb dX10_isLess_108 (by decide) ?_
            refine lv_goto (tgt := 127) hx hb dX10_isLess_109 (by decide) ?_
            cases h
            exact sm_zret (by first | rfl | decide) hx hb hr hlocks hP hS dX10_isLess_127
      · rw [if_neg c64_267] at h
        refine lv_iload_n hx hb dX10_isLess_67 rfl (lv_at hl 2 rfl) ?_
        refine lv_iload hx hb dX10_isLess_68 (lv_at hl 4 rfl) ?_
        refine lv_icmp_eq (tgt := 87) hx hb dX10_isLess_70 (by decide) (fun c70_271 => ?_) (fun c70_271 => ?_)
        · rw [if_pos c70_271] at h
          refine lv_iload_n hx hb dX10_isLess_87 rfl (lv_at hl 1 rfl) ?_
          refine lv_iload_n hx hb dX10_isLess_88 rfl (lv_at hl 3 rfl) ?_
          refine lv_icmp_ge (tgt := 96) hx hb dX10_isLess_89 (by decide) (fun c89_272 => ?_) (fun c89_272 => ?_)
          · rw [if_pos c89_272] at h
            refine lv_iconst (v := (0 : Int32)) hx hb dX10_isLess_96 (by decide) ?_
            cases h
            exact sm_zret (by first | rfl | decide) hx hb hr hlocks hP hS dX10_isLess_97
          · rw [if_neg c89_272] at h
            refine lv_iconst (v := (1 : Int32)) hx hb dX10_isLess_92 (by decide) ?_
            refine lv_goto (tgt := 97) hx hb dX10_isLess_93 (by decide) ?_
            cases h
            exact sm_zret (by first | rfl | decide) hx hb hr hlocks hP hS dX10_isLess_97
        · rw [if_neg c70_271] at h
          refine lv_iload_n hx hb dX10_isLess_73 rfl (lv_at hl 2 rfl) ?_
          refine lv_iload hx hb dX10_isLess_74 (lv_at hl 4 rfl) ?_
          refine lv_icmp_ge (tgt := 83) hx hb dX10_isLess_76 (by decide) (fun c76_273 => ?_) (fun c76_273 => ?_)
          · rw [if_pos c76_273] at h
            refine lv_iconst (v := (0 : Int32)) hx hb dX10_isLess_83 (by decide) ?_
            refine lv_goto (tgt := 97) hx hb dX10_isLess_84 (by decide) ?_
            cases h
            exact sm_zret (by first | rfl | decide) hx hb hr hlocks hP hS dX10_isLess_97
          · rw [if_neg c76_273] at h
            refine lv_iconst (v := (1 : Int32)) hx hb dX10_isLess_79 (by decide) ?_
            refine lv_goto (tgt := 97) hx hb dX10_isLess_80 (by decide) ?_
            cases h
            exact sm_zret (by first | rfl | decide) hx hb hr hlocks hP hS dX10_isLess_97
    refine sm_jn (x := v1) (T := fun (q : Unit) => m_X10_isLess_j55 x1 x2 x3 x4 M) (P := fun (q : Unit) H locs ls => smP D cA 1 adr M H ∧ va_S (smA 1 adr) s.heap H locs ∧ lv_has ls 10 [(1, .int x1), (2, .int x2), (3, .int x3), (4, .int x4)]) (st := fun (q : Unit) => []) (pc := 55) ?_ (fun J55_274 => ?_)
    · intro q H locs ls h hI
      obtain ⟨hP, hS, hl⟩ := hI
      have hP : smP D cA 1 adr M H := hP
      have hl : lv_has ls 10 [(1, .int x1), (2, .int x2), (3, .int x3), (4, .int x4)] := hl
      have h : m_X10_isLess_j55 x1 x2 x3 x4 M = some _ := h
      unfold m_X10_isLess_j55 at h
      refine W.eq (g2 := F0 m 55 ls []) rfl ?_
      refine lv_iconst (v := (1 : Int32)) hx hb dX10_isLess_55 (by decide) ?_
      refine lv_goto (tgt := 60) hx hb dX10_isLess_56 (by decide) ?_
      exact J60_266 (1 : Int32) _ _ _ h ⟨hP, hS, lv_sub hl [0, 1, 2, 3] rfl⟩
    refine lv_icmp_eq (tgt := 55) hx hb dX10_isLess_44 (by decide) (fun c44_275 => ?_) (fun c44_275 => ?_)
    · rw [if_pos c44_275] at h
      exact J55_274 () _ _ _ h ⟨hP, hS, lv_sub hl [3, 4, 5, 6] rfl⟩
    · rw [if_neg c44_275] at h
      refine lv_aload_n hx hb dX10_isLess_47 rfl (lv_at hl 2 rfl) ?_
      refine sm_get (ci := 10) (C := RX10) (T := TX10) (N := 3) (v := .int (M a0 0)) hx hb hts hin10 hown hE hP ha0 rfl rfl 0 (by decide) (hts (.fieldLink RX10 16 "OrderMover$TermOrder" "kind" "I") (by decide +kernel)) (fun _ h9 => h9) rfl dX10_isLess_48 ?_
      refine lv_iconst (v := (3 : Int32)) hx hb dX10_isLess_51 (by decide) ?_
      refine lv_icmp_ne (tgt := 59) hx hb dX10_isLess_52 (by decide) (fun c52_276 => ?_) (fun c52_276 => ?_)
      · rw [if_neg c52_276] at h
        refine lv_iconst (v := (0 : Int32)) hx hb dX10_isLess_59 (by decide) ?_
        exact J60_266 (0 : Int32) _ _ _ h ⟨hP, hS, lv_sub hl [3, 4, 5, 6] rfl⟩
      · rw [if_pos c52_276] at h
        exact J55_274 () _ _ _ h ⟨hP, hS, lv_sub hl [3, 4, 5, 6] rfl⟩
  · rw [if_neg c22_264] at h
    refine lv_lload hx hb dX10_isLess_25 (lv_at hl 1 rfl) ?_
    refine lv_lload hx hb dX10_isLess_27 (lv_at hl 0 rfl) ?_
    refine W.lcmp hx hb dX10_isLess_29 ?_
    refine lv_if_ge (tgt := 37) hx hb dX10_isLess_30 (by decide) (fun c30_277 => ?_) (fun c30_277 => ?_)
    · rw [if_pos c30_277] at h
      refine lv_iconst (v := (0 : Int32)) hx hb dX10_isLess_37 (by decide) ?_
      cases h
      exact sm_zret (by first | rfl | decide) hx hb hr hlocks hP hS dX10_isLess_38
    · rw [if_neg c30_277] at h
      refine lv_iconst (v := (1 : Int32)) hx hb dX10_isLess_33 (by decide) ?_
      refine lv_goto (tgt := 38) hx hb dX10_isLess_34 (by decide) ?_
      cases h
      exact sm_zret (by first | rfl | decide) hx hb hr hlocks hP hS dX10_isLess_38
set_option maxHeartbeats 4000000 in
set_option maxRecDepth 100000 in
theorem k_X1_passLeast (l : Launch) (D : va_G) (cA : Nat → ClassId) (adr : Nat → Nat) (hJ : smJ 1 adr) (a0 : Nat) (a1 : Nat) (ha0 : smT 1 a0 1) (ha1 : smT 1 a1 10) (M : smM) (v1 : Int32) (M1 : smM) (h : m_X1_passLeast a0 a1 M = some (v1, M1)) : Met l yX1_passLeast wsX1_passLeast ({ frames := 2, cells := 0, slots := 0, locals := 51 }) (smPc D cA 1 adr M [.ref (adr a0), .ref (adr a1)]) (smQi D cA 1 adr M1 v1) 0 0 (smA 1 adr) := by
  refine Met.ofW (cc := cX1_passLeast) (maxL := 4) (ret := (some .int)) (by decide) rfl ?_
  intro p e s m args below meth c s₁ B hml hv
  obtain ⟨rfl, hE, hP⟩ := hv
  have hx := B.exec
  have hb := B.bytes
  have hr := B.returns
  have hts := atoms_spec (ws := wsX1_passLeast) B.pre
  have hown : s.vm.findClass RX1 = some m.cls := findClass_of_methodNamed B.named
  have hlocks := B.notSynchronized
  have hS : va_S (smA 1 adr) s.heap s.heap [] := va_S.rf
  have hP : smP D cA 1 adr M s.heap := hP
  have hl := lv_entry ([.ref (adr a0), .ref (adr a1)]) (n := 4) (Nat.le_of_ble_eq_true rfl)
  rw [lg_entry_eq]
  generalize (lg_sl ([.ref (adr a0), .ref (adr a1)]) ++ List.replicate (4 - (lg_sl ([.ref (adr a0), .ref (adr a1)])).length) Slot.unset).toArray = ls at hl ⊢
  have hl : lv_has ls 4 [(0, .ref (adr a0)), (1, .ref (adr a1))] := hl
  unfold m_X1_passLeast at h
  have hin1 : ∀ w ∈ u_ws RX1 TX1 6, w ∈ wsX1_passLeast := by decide +kernel
  refine lv_iconst (v := (-1 : Int32)) hx hb dX1_passLeast_0 (by decide) ?_
  refine lv_istore_n (lv' := [(2, .int (-1 : Int32)), (0, .ref (adr a0)), (1, .ref (adr a1))]) hx hb dX1_passLeast_1 rfl hl (by decide) rfl (fun ls hl => ?_)
  refine lv_iconst (v := (0 : Int32)) hx hb dX1_passLeast_2 (by decide) ?_
  refine lv_istore_n (lv' := [(3, .int (0 : Int32)), (2, .int (-1 : Int32)), (0, .ref (adr a0)), (1, .ref (adr a1))]) hx hb dX1_passLeast_3 rfl hl (by decide) rfl (fun ls hl => ?_)
  refine sm_lp (b := fun rc q => m_X1_passLeast_b4 a0 a1 M rc q.1 q.2) (P := fun (q : Int32 × Int32) H locs ls => smP D cA 1 adr M H ∧ va_S (smA 1 adr) s.heap H locs ∧ lv_has ls 4 [(0, .ref (adr a0)), (1, .ref (adr a1)), (2, .int q.1), (3, .int q.2)]) (pc := 4) ?_ _ _ _ _ _ h ⟨hP, hS, lv_sub hl [2, 3, 1, 0] rfl⟩
  intro rc4_280 ih4_281 q H locs ls h hI
  obtain ⟨x2_4_278, x3_4_279⟩ := q
  obtain ⟨hP, hS, hl⟩ := hI
  have hP : smP D cA 1 adr M H := hP
  have hl : lv_has ls 4 [(0, .ref (adr a0)), (1, .ref (adr a1)), (2, .int x2_4_278), (3, .int x3_4_279)] := hl
  have h : m_X1_passLeast_b4 a0 a1 M rc4_280 x2_4_278 x3_4_279 = some _ := h
  unfold m_X1_passLeast_b4 at h
  refine lv_iload_n hx hb dX1_passLeast_4 rfl (lv_at hl 3 rfl) ?_
  refine lv_aload_n hx hb dX1_passLeast_5 rfl (lv_at hl 0 rfl) ?_
  refine sm_get (ci := 1) (C := RX1) (T := TX1) (N := 6) (v := .int (M a0 0)) hx hb hts hin1 hown hE hP ha0 rfl rfl 0 (by decide) (hts (.fieldLink RX1 28 "OrderMover$Border" "howMany" "I") (by decide +kernel)) (fun _ h9 => h9) rfl dX1_passLeast_6 ?_
  refine lv_icmp_ge (tgt := 64) hx hb dX1_passLeast_9 (by decide) (fun c9_282 => ?_) (fun c9_282 => ?_)
  · rw [if_pos c9_282] at h
    refine lv_iload_n hx hb dX1_passLeast_64 rfl (lv_at hl 2 rfl) ?_
    refine lv_if_lt (tgt := 75) hx hb dX1_passLeast_65 (by decide) (fun c65_283 => ?_) (fun c65_283 => ?_)
    · rw [if_pos c65_283] at h
      refine lv_iload_n hx hb dX1_passLeast_75 rfl (lv_at hl 2 rfl) ?_
      cases h
      exact sm_iret hx hb hr hlocks hP hS dX1_passLeast_76
    · rw [if_neg c65_283] at h
      refine lv_aload_n hx hb dX1_passLeast_68 rfl (lv_at hl 0 rfl) ?_
      refine sm_get (ci := 1) (C := RX1) (T := TX1) (N := 6) (v := .ref (adr (a0 + 5))) hx hb hts hin1 hown hE hP ha0 rfl rfl 5 (by decide) (hts (.fieldLink RX1 24 "OrderMover$Border" "passed" "[Z") (by decide +kernel)) (fun _ h9 => h9) rfl dX1_passLeast_69 ?_
      refine lv_iload_n hx hb dX1_passLeast_72 rfl (lv_at hl 2 rfl) ?_
      refine lv_iconst (v := (1 : Int32)) hx hb dX1_passLeast_73 (by decide) ?_
      obtain ⟨c74_284, h⟩ := sm_ck h
      refine sm_zast (y := (1 : Int32)) hx hb hE hJ hP hS (t1_5 ha0) (by decide) c74_284 dX1_passLeast_74 (fun H locs hP hS => ?_)
      obtain ⟨M74_285, hM, h⟩ := sm_lt h
      rw [← hM] at hP; clear hM
      refine lv_iload_n hx hb dX1_passLeast_75 rfl (lv_at hl 2 rfl) ?_
      cases h
      exact sm_iret hx hb hr hlocks hP hS dX1_passLeast_76
  · rw [if_neg c9_282] at h
    refine lv_aload_n hx hb dX1_passLeast_12 rfl (lv_at hl 0 rfl) ?_
    refine sm_get (ci := 1) (C := RX1) (T := TX1) (N := 6) (v := .ref (adr (a0 + 5))) hx hb hts hin1 hown hE hP ha0 rfl rfl 5 (by decide) (hts (.fieldLink RX1 24 "OrderMover$Border" "passed" "[Z") (by decide +kernel)) (fun _ h9 => h9) rfl dX1_passLeast_13 ?_
    refine lv_iload_n hx hb dX1_passLeast_16 rfl (lv_at hl 3 rfl) ?_
    obtain ⟨c17_286, h⟩ := sm_ck h
    refine sm_zald hx hb hE hP (t1_5 ha0) c17_286 dX1_passLeast_17 ?_
    refine lv_if_ne (tgt := 58) hx hb dX1_passLeast_18 (by decide) (fun c18_287 => ?_) (fun c18_287 => ?_)
    · rw [if_neg c18_287] at h
      refine lv_iinc (v := (x3_4_279 + (1 : Int32))) (lv' := [(3, .int (x3_4_279 + (1 : Int32))), (0, .ref (adr a0)), (1, .ref (adr a1)), (2, .int x2_4_278)]) hx hb dX1_passLeast_58 hl (k := 3) rfl (congrArg (fun z => x3_4_279 + z) (by decide)) (by decide) rfl (fun ls hl => ?_)
      refine lv_goto (tgt := 4) hx hb dX1_passLeast_61 (by decide) ?_
      exact ih4_281 (x2_4_278, (x3_4_279 + (1 : Int32))) _ _ _ h ⟨hP, hS, lv_sub hl [1, 2, 3, 0] rfl⟩
    · rw [if_pos c18_287] at h
      refine lv_iload_n hx hb dX1_passLeast_21 rfl (lv_at hl 2 rfl) ?_
      refine lv_if_lt (tgt := 56) hx hb dX1_passLeast_22 (by decide) (fun c22_288 => ?_) (fun c22_288 => ?_)
      · rw [if_pos c22_288] at h
        refine lv_iload_n hx hb dX1_passLeast_56 rfl (lv_at hl 3 rfl) ?_
        refine lv_istore_n (lv' := [(2, .int x3_4_279), (0, .ref (adr a0)), (1, .ref (adr a1)), (3, .int x3_4_279)]) hx hb dX1_passLeast_57 rfl hl (by decide) rfl (fun ls hl => ?_)
        refine lv_iinc (v := (x3_4_279 + (1 : Int32))) (lv' := [(3, .int (x3_4_279 + (1 : Int32))), (2, .int x3_4_279), (0, .ref (adr a0)), (1, .ref (adr a1))]) hx hb dX1_passLeast_58 hl (k := 3) rfl (congrArg (fun z => x3_4_279 + z) (by decide)) (by decide) rfl (fun ls hl => ?_)
        refine lv_goto (tgt := 4) hx hb dX1_passLeast_61 (by decide) ?_
        exact ih4_281 (x3_4_279, (x3_4_279 + (1 : Int32))) _ _ _ h ⟨hP, hS, lv_sub hl [2, 3, 1, 0] rfl⟩
      · rw [if_neg c22_288] at h
        refine lv_aload_n hx hb dX1_passLeast_25 rfl (lv_at hl 1 rfl) ?_
        refine lv_aload_n hx hb dX1_passLeast_26 rfl (lv_at hl 0 rfl) ?_
        refine sm_get (ci := 1) (C := RX1) (T := TX1) (N := 6) (v := .ref (adr (a0 + 1))) hx hb hts hin1 hown hE hP ha0 rfl rfl 1 (by decide) (hts (.fieldLink RX1 11 "OrderMover$Border" "xs" "[I") (by decide +kernel)) (fun _ h9 => h9) rfl dX1_passLeast_27 ?_
        refine lv_iload_n hx hb dX1_passLeast_30 rfl (lv_at hl 3 rfl) ?_
        obtain ⟨c31_289, h⟩ := sm_ck h
        refine sm_iald hx hb hE hP (t1_1 ha0) c31_289 dX1_passLeast_31 ?_
        refine lv_aload_n hx hb dX1_passLeast_32 rfl (lv_at hl 0 rfl) ?_
        refine sm_get (ci := 1) (C := RX1) (T := TX1) (N := 6) (v := .ref (adr (a0 + 2))) hx hb hts hin1 hown hE hP ha0 rfl rfl 2 (by decide) (hts (.fieldLink RX1 15 "OrderMover$Border" "ys" "[I") (by decide +kernel)) (fun _ h9 => h9) rfl dX1_passLeast_33 ?_
        refine lv_iload_n hx hb dX1_passLeast_36 rfl (lv_at hl 3 rfl) ?_
        obtain ⟨c37_290, h⟩ := sm_ck h
        refine sm_iald hx hb hE hP (t1_2 ha0) c37_290 dX1_passLeast_37 ?_
        refine lv_aload_n hx hb dX1_passLeast_38 rfl (lv_at hl 0 rfl) ?_
        refine sm_get (ci := 1) (C := RX1) (T := TX1) (N := 6) (v := .ref (adr (a0 + 1))) hx hb hts hin1 hown hE hP ha0 rfl rfl 1 (by decide) (hts (.fieldLink RX1 11 "OrderMover$Border" "xs" "[I") (by decide +kernel)) (fun _ h9 => h9) rfl dX1_passLeast_39 ?_
        refine lv_iload_n hx hb dX1_passLeast_42 rfl (lv_at hl 2 rfl) ?_
        obtain ⟨c43_291, h⟩ := sm_ck h
        refine sm_iald hx hb hE hP (t1_1 ha0) c43_291 dX1_passLeast_43 ?_
        refine lv_aload_n hx hb dX1_passLeast_44 rfl (lv_at hl 0 rfl) ?_
        refine sm_get (ci := 1) (C := RX1) (T := TX1) (N := 6) (v := .ref (adr (a0 + 2))) hx hb hts hin1 hown hE hP ha0 rfl rfl 2 (by decide) (hts (.fieldLink RX1 15 "OrderMover$Border" "ys" "[I") (by decide +kernel)) (fun _ h9 => h9) rfl dX1_passLeast_45 ?_
        refine lv_iload_n hx hb dX1_passLeast_48 rfl (lv_at hl 2 rfl) ?_
        obtain ⟨c49_292, h⟩ := sm_ck h
        refine sm_iald hx hb hE hP (t1_2 ha0) c49_292 dX1_passLeast_49 ?_
        obtain ⟨v50_293, hc50_295, h⟩ := sm_bd h
        refine sm_ci (va_runV (As := [.int (M (a0 + 1) (x3_4_279).toNatClampNeg), .int (M (a0 + 2) (x3_4_279).toNatClampNeg), .int (M (a0 + 1) (x2_4_278).toNatClampNeg), .int (M (a0 + 2) (x2_4_278).toNatClampNeg)]) (rest := []) ⟨hx, hb, hml, hown, hts⟩ (k_X10_isLess l D cA adr hJ a1 (M (a0 + 1) (x3_4_279).toNatClampNeg) (M (a0 + 2) (x3_4_279).toNatClampNeg) (M (a0 + 1) (x2_4_278).toNatClampNeg) (M (a0 + 2) (x2_4_278).toNatClampNeg) ha1 M v50_293 hc50_295) (cwV 4 hts gX1_passLeast_X10_isLess rfl rfl rfl (by decide +kernel) ⟨Nat.le_of_ble_eq_true rfl, Nat.le_of_ble_eq_true rfl⟩) ⟨smPc_bl, smRv hE hP ha1 rfl (ci := 10) (q := (RX10, TX10, 3)) rfl, smPc_in [.ref (adr a1), .int (M (a0 + 1) (x3_4_279).toNatClampNeg), .int (M (a0 + 2) (x3_4_279).toNatClampNeg), .int (M (a0 + 1) (x2_4_278).toNatClampNeg), .int (M (a0 + 2) (x2_4_278).toNatClampNeg)] hE hP⟩ rfl rfl hl.1 rfl (lv_room (Nat.le_of_ble_eq_true rfl)) dX1_passLeast_50 ⟨Nat.zero_le _, Nat.zero_le _⟩) hS (fun H locs hP hS => ?_)
        refine lv_if_eq (tgt := 58) hx hb dX1_passLeast_53 (by decide) (fun c53_296 => ?_) (fun c53_296 => ?_)
        · rw [if_pos c53_296] at h
          refine lv_iinc (v := (x3_4_279 + (1 : Int32))) (lv' := [(3, .int (x3_4_279 + (1 : Int32))), (0, .ref (adr a0)), (1, .ref (adr a1)), (2, .int x2_4_278)]) hx hb dX1_passLeast_58 hl (k := 3) rfl (congrArg (fun z => x3_4_279 + z) (by decide)) (by decide) rfl (fun ls hl => ?_)
          refine lv_goto (tgt := 4) hx hb dX1_passLeast_61 (by decide) ?_
          exact ih4_281 (x2_4_278, (x3_4_279 + (1 : Int32))) _ _ _ h ⟨hP, hS, lv_sub hl [1, 2, 3, 0] rfl⟩
        · rw [if_neg c53_296] at h
          refine lv_iload_n hx hb dX1_passLeast_56 rfl (lv_at hl 3 rfl) ?_
          refine lv_istore_n (lv' := [(2, .int x3_4_279), (0, .ref (adr a0)), (1, .ref (adr a1)), (3, .int x3_4_279)]) hx hb dX1_passLeast_57 rfl hl (by decide) rfl (fun ls hl => ?_)
          refine lv_iinc (v := (x3_4_279 + (1 : Int32))) (lv' := [(3, .int (x3_4_279 + (1 : Int32))), (2, .int x3_4_279), (0, .ref (adr a0)), (1, .ref (adr a1))]) hx hb dX1_passLeast_58 hl (k := 3) rfl (congrArg (fun z => x3_4_279 + z) (by decide)) (by decide) rfl (fun ls hl => ?_)
          refine lv_goto (tgt := 4) hx hb dX1_passLeast_61 (by decide) ?_
          exact ih4_281 (x3_4_279, (x3_4_279 + (1 : Int32))) _ _ _ h ⟨hP, hS, lv_sub hl [2, 3, 1, 0] rfl⟩
set_option maxHeartbeats 4000000 in
set_option maxRecDepth 100000 in
theorem k_X0_walk (l : Launch) (D : va_G) (cA : Nat → ClassId) (adr : Nat → Nat) (hJ : smJ 1 adr) (a0 : Nat) (a1 : Nat) (x2 : Int32) (x3 : Int32) (x4 : Int32) (ha0 : smT 1 a0 0) (ha1 : smT 1 a1 6) (M : smM) (M1 : smM) (h : m_X0_walk a0 a1 x2 x3 x4 M = some M1) : Met l yX0_walk wsX0_walk ({ frames := 3, cells := 0, slots := 0, locals := 75 }) (smPc D cA 1 adr M [.ref (adr a0), .ref (adr a1), .int x2, .int x3, .int x4]) (smQv D cA 1 adr M1) 0 0 (smA 1 adr) := by
  refine Met.ofW (cc := cX0_walk) (maxL := 7) (ret := none) (by decide) rfl ?_
  intro p e s m args below meth c s₁ B hml hv
  obtain ⟨rfl, hE, hP⟩ := hv
  have hx := B.exec
  have hb := B.bytes
  have hr := B.returns
  have hts := atoms_spec (ws := wsX0_walk) B.pre
  have hown : s.vm.findClass RX0 = some m.cls := findClass_of_methodNamed B.named
  have hlocks := B.notSynchronized
  have hS : va_S (smA 1 adr) s.heap s.heap [] := va_S.rf
  have hP : smP D cA 1 adr M s.heap := hP
  have hl := lv_entry ([.ref (adr a0), .ref (adr a1), .int x2, .int x3, .int x4]) (n := 7) (Nat.le_of_ble_eq_true rfl)
  rw [lg_entry_eq]
  generalize (lg_sl ([.ref (adr a0), .ref (adr a1), .int x2, .int x3, .int x4]) ++ List.replicate (7 - (lg_sl ([.ref (adr a0), .ref (adr a1), .int x2, .int x3, .int x4])).length) Slot.unset).toArray = ls at hl ⊢
  have hl : lv_has ls 7 [(0, .ref (adr a0)), (1, .ref (adr a1)), (2, .int x2), (3, .int x3), (4, .int x4)] := hl
  unfold m_X0_walk at h
  have hin0 : ∀ w ∈ u_ws RX0 TX0 9, w ∈ wsX0_walk := by decide +kernel
  have hin1 : ∀ w ∈ u_ws RX1 TX1 6, w ∈ wsX0_walk := by decide +kernel
  have hin4 : ∀ w ∈ u_ws RX4 TX4 4, w ∈ wsX0_walk := by decide +kernel
  have hin6 : ∀ w ∈ u_ws RX6 TX6 5, w ∈ wsX0_walk := by decide +kernel
  refine lv_aload_n hx hb dX0_walk_0 rfl (lv_at hl 0 rfl) ?_
  refine sm_get (ci := 0) (C := RX0) (T := TX0) (N := 9) (v := .ref (adr (a0 + 1))) hx hb hts hin0 hown hE hP ha0 rfl rfl 0 (by decide) (hts (.fieldLink RX0 12 "OrderMover$Base" "order" "LOrderMover$TermOrder;") (by decide +kernel)) (fun _ h9 => h9) rfl dX0_walk_1 ?_
  refine lv_iload_n hx hb dX0_walk_4 rfl (lv_at hl 2 rfl) ?_
  refine lv_iload_n hx hb dX0_walk_5 rfl (lv_at hl 3 rfl) ?_
  refine lv_iload hx hb dX0_walk_6 (lv_at hl 4 rfl) ?_
  obtain ⟨M8_298, hc8_299, h⟩ := sm_bd h
  refine sm_cv (va_runV (As := [.int x2, .int x3, .int x4]) (rest := []) ⟨hx, hb, hml, hown, hts⟩ (k_X10_become l D cA adr hJ (a0 + 1) x2 x3 x4 (t0_0 ha0) M M8_298 hc8_299) (cwV 3 hts gX0_walk_X10_become rfl rfl rfl (by decide +kernel) ⟨Nat.le_of_ble_eq_true rfl, Nat.le_of_ble_eq_true rfl⟩) ⟨smPc_bl, smRv hE hP (t0_0 ha0) rfl (ci := 10) (q := (RX10, TX10, 3)) rfl, smPc_in [.ref (adr (a0 + 1)), .int x2, .int x3, .int x4] hE hP⟩ rfl rfl hl.1 rfl (lv_room (Nat.le_of_ble_eq_true rfl)) dX0_walk_8 ⟨Nat.zero_le _, Nat.zero_le _⟩) hS (fun H locs hP hS => ?_)
  refine lv_aload_n hx hb dX0_walk_11 rfl (lv_at hl 0 rfl) ?_
  refine sm_get (ci := 0) (C := RX0) (T := TX0) (N := 9) (v := .ref (adr (a0 + 2))) hx hb hts hin0 hown hE hP ha0 rfl rfl 1 (by decide) (hts (.fieldLink RX0 21 "OrderMover$Base" "members" "LOrderMover$Members;") (by decide +kernel)) (fun _ h9 => h9) rfl dX0_walk_12 ?_
  refine lv_iconst (v := (0 : Int32)) hx hb dX0_walk_15 (by decide) ?_
  refine sm_put (ci := 4) (C := RX4) (T := TX4) (N := 4) (ty := .int) hx hb hts hin4 tyX4 tyX4_ok nmX4 hown hE hJ hP hS (t0_1 ha0) rfl rfl 0 (by decide) (hts (.fieldLink RX0 61 "OrderMover$Members" "howMany" "I") (by decide +kernel)) (fun _ h9 => h9) rfl (by decide +kernel) rfl rfl (Nat.le_of_ble_eq_true rfl) rfl dX0_walk_16 (fun H locs hP hS => ?_)
  obtain ⟨M16_300, hM, h⟩ := sm_lt h
  rw [← hM] at hP; clear hM
  refine lv_aload_n hx hb dX0_walk_19 rfl (lv_at hl 0 rfl) ?_
  refine sm_get (ci := 0) (C := RX0) (T := TX0) (N := 9) (v := .ref (adr (a0 + 16))) hx hb hts hin0 hown hE hP ha0 rfl rfl 2 (by decide) (hts (.fieldLink RX0 28 "OrderMover$Base" "span" "LOrderMover$Span;") (by decide +kernel)) (fun _ h9 => h9) rfl dX0_walk_20 ?_
  refine lv_aload_n hx hb dX0_walk_23 rfl (lv_at hl 1 rfl) ?_
  refine sm_get (ci := 6) (C := RX6) (T := TX6) (N := 5) (v := .int (M16_300 a1 0)) hx hb hts hin6 hown hE hP ha1 rfl rfl 0 (by decide) (hts (.fieldLink RX0 65 "OrderMover$Quotient" "p" "I") (by decide +kernel)) (fun _ h9 => h9) rfl dX0_walk_24 ?_
  obtain ⟨M27_302, hc27_303, h⟩ := sm_bd h
  refine sm_cv (va_runV (As := [.int (M16_300 a1 0)]) (rest := []) ⟨hx, hb, hml, hown, hts⟩ (k_X9_begin l D cA adr hJ (a0 + 16) (M16_300 a1 0) (t0_2 ha0) M16_300 M27_302 hc27_303) (cwV 1 hts gX0_walk_X9_begin rfl rfl rfl (by decide +kernel) ⟨Nat.le_of_ble_eq_true rfl, Nat.le_of_ble_eq_true rfl⟩) ⟨smPc_bl, smRv hE hP (t0_2 ha0) rfl (ci := 9) (q := (RX9, TX9, 5)) rfl, smPc_in [.ref (adr (a0 + 16)), .int (M16_300 a1 0)] hE hP⟩ rfl rfl hl.1 rfl (lv_room (Nat.le_of_ble_eq_true rfl)) dX0_walk_27 ⟨Nat.zero_le _, Nat.zero_le _⟩) hS (fun H locs hP hS => ?_)
  refine lv_aload_n hx hb dX0_walk_30 rfl (lv_at hl 0 rfl) ?_
  refine sm_get (ci := 0) (C := RX0) (T := TX0) (N := 9) (v := .ref (adr (a0 + 50))) hx hb hts hin0 hown hE hP ha0 rfl rfl 6 (by decide) (hts (.fieldLink RX0 47 "OrderMover$Base" "border" "LOrderMover$Border;") (by decide +kernel)) (fun _ h9 => h9) rfl dX0_walk_31 ?_
  obtain ⟨M34_305, hc34_306, h⟩ := sm_bd h
  refine sm_cv (va_runV (As := []) (rest := []) ⟨hx, hb, hml, hown, hts⟩ (k_X1_begin l D cA adr hJ (a0 + 50) (t0_6 ha0) M27_302 M34_305 hc34_306) (cwV 0 hts gX0_walk_X1_begin rfl rfl rfl (by decide +kernel) ⟨Nat.le_of_ble_eq_true rfl, Nat.le_of_ble_eq_true rfl⟩) ⟨smPc_bl, smRv hE hP (t0_6 ha0) rfl (ci := 1) (q := (RX1, TX1, 6)) rfl, smPc_in [.ref (adr (a0 + 50))] hE hP⟩ rfl rfl hl.1 rfl (lv_room (Nat.le_of_ble_eq_true rfl)) dX0_walk_34 ⟨Nat.zero_le _, Nat.zero_le _⟩) hS (fun H locs hP hS => ?_)
  refine lv_iconst (v := (0 : Int32)) hx hb dX0_walk_37 (by decide) ?_
  refine lv_istore (lv' := [(5, .int (0 : Int32)), (0, .ref (adr a0)), (1, .ref (adr a1)), (2, .int x2), (3, .int x3), (4, .int x4)]) hx hb dX0_walk_38 hl (by decide) rfl (fun ls hl => ?_)
  refine sm_lp (b := fun rc q => m_X0_walk_b40 a0 a1 rc q.1 q.2) (P := fun (q : Int32 × smM) H locs ls => smP D cA 1 adr q.2 H ∧ va_S (smA 1 adr) s.heap H locs ∧ lv_has ls 7 [(0, .ref (adr a0)), (1, .ref (adr a1)), (5, .int q.1)]) (pc := 40) ?_ _ _ _ _ _ h ⟨hP, hS, lv_sub hl [1, 2, 0] rfl⟩
  intro rc40_309 ih40_310 q H locs ls h hI
  obtain ⟨x5_40_307, M40_308⟩ := q
  obtain ⟨hP, hS, hl⟩ := hI
  have hP : smP D cA 1 adr M40_308 H := hP
  have hl : lv_has ls 7 [(0, .ref (adr a0)), (1, .ref (adr a1)), (5, .int x5_40_307)] := hl
  have h : m_X0_walk_b40 a0 a1 rc40_309 x5_40_307 M40_308 = some _ := h
  unfold m_X0_walk_b40 at h
  refine lv_iload hx hb dX0_walk_40 (lv_at hl 2 rfl) ?_
  refine lv_bipush (v := (19 : Int32)) hx hb dX0_walk_42 (by decide) ?_
  refine lv_icmp_ge (tgt := 109) hx hb dX0_walk_44 (by decide) (fun c44_311 => ?_) (fun c44_311 => ?_)
  · rw [if_pos c44_311] at h
    cases h
    exact sm_vret hx hb hr hlocks hP hS dX0_walk_109
  · rw [if_neg c44_311] at h
    refine lv_aload_n hx hb dX0_walk_47 rfl (lv_at hl 0 rfl) ?_
    refine sm_get (ci := 0) (C := RX0) (T := TX0) (N := 9) (v := .ref (adr (a0 + 50))) hx hb hts hin0 hown hE hP ha0 rfl rfl 6 (by decide) (hts (.fieldLink RX0 47 "OrderMover$Base" "border" "LOrderMover$Border;") (by decide +kernel)) (fun _ h9 => h9) rfl dX0_walk_48 ?_
    refine lv_aload_n hx hb dX0_walk_51 rfl (lv_at hl 0 rfl) ?_
    refine sm_get (ci := 0) (C := RX0) (T := TX0) (N := 9) (v := .ref (adr (a0 + 1))) hx hb hts hin0 hown hE hP ha0 rfl rfl 0 (by decide) (hts (.fieldLink RX0 12 "OrderMover$Base" "order" "LOrderMover$TermOrder;") (by decide +kernel)) (fun _ h9 => h9) rfl dX0_walk_52 ?_
    obtain ⟨v55_312, M55_313, hc55_314, h⟩ := sm_bd2 h
    refine sm_ci (va_runV (As := [.ref (adr (a0 + 1))]) (rest := []) ⟨hx, hb, hml, hown, hts⟩ (k_X1_passLeast l D cA adr hJ (a0 + 50) (a0 + 1) (t0_6 ha0) (t0_0 ha0) M40_308 v55_312 M55_313 hc55_314) (cwV 1 hts gX0_walk_X1_passLeast rfl rfl rfl (by decide +kernel) ⟨Nat.le_of_ble_eq_true rfl, Nat.le_of_ble_eq_true rfl⟩) ⟨smPc_bl, smRv hE hP (t0_6 ha0) rfl (ci := 1) (q := (RX1, TX1, 6)) rfl, smPc_in [.ref (adr (a0 + 50)), .ref (adr (a0 + 1))] hE hP⟩ rfl rfl hl.1 rfl (lv_room (Nat.le_of_ble_eq_true rfl)) dX0_walk_55 ⟨Nat.zero_le _, Nat.zero_le _⟩) hS (fun H locs hP hS => ?_)
    refine lv_istore (lv' := [(6, .int v55_312), (0, .ref (adr a0)), (1, .ref (adr a1)), (5, .int x5_40_307)]) hx hb dX0_walk_58 hl (by decide) rfl (fun ls hl => ?_)
    refine lv_iload hx hb dX0_walk_60 (lv_at hl 0 rfl) ?_
    refine lv_if_ge (tgt := 66) hx hb dX0_walk_62 (by decide) (fun c62_315 => ?_) (fun c62_315 => ?_)
    · rw [if_pos c62_315] at h
      refine lv_aload_n hx hb dX0_walk_66 rfl (lv_at hl 1 rfl) ?_
      refine sm_get (ci := 0) (C := RX0) (T := TX0) (N := 9) (v := .ref (adr (a0 + 2))) hx hb hts hin0 hown hE hP ha0 rfl rfl 1 (by decide) (hts (.fieldLink RX0 21 "OrderMover$Base" "members" "LOrderMover$Members;") (by decide +kernel)) (fun _ h9 => h9) rfl dX0_walk_67 ?_
      refine lv_aload_n hx hb dX0_walk_70 rfl (lv_at hl 1 rfl) ?_
      refine sm_get (ci := 0) (C := RX0) (T := TX0) (N := 9) (v := .ref (adr (a0 + 50))) hx hb hts hin0 hown hE hP ha0 rfl rfl 6 (by decide) (hts (.fieldLink RX0 47 "OrderMover$Base" "border" "LOrderMover$Border;") (by decide +kernel)) (fun _ h9 => h9) rfl dX0_walk_71 ?_
      refine sm_get (ci := 1) (C := RX1) (T := TX1) (N := 6) (v := .ref (adr ((a0 + 50) + 1))) hx hb hts hin1 hown hE hP (t0_6 ha0) rfl rfl 1 (by decide) (hts (.fieldLink RX0 80 "OrderMover$Border" "xs" "[I") (by decide +kernel)) (fun _ h9 => h9) rfl dX0_walk_74 ?_
      refine lv_iload hx hb dX0_walk_77 (lv_at hl 0 rfl) ?_
      obtain ⟨c79_316, h⟩ := sm_ck h
      refine sm_iald hx hb hE hP (t1_1 (t0_6 ha0)) c79_316 dX0_walk_79 ?_
      refine lv_aload_n hx hb dX0_walk_80 rfl (lv_at hl 1 rfl) ?_
      refine sm_get (ci := 0) (C := RX0) (T := TX0) (N := 9) (v := .ref (adr (a0 + 50))) hx hb hts hin0 hown hE hP ha0 rfl rfl 6 (by decide) (hts (.fieldLink RX0 47 "OrderMover$Base" "border" "LOrderMover$Border;") (by decide +kernel)) (fun _ h9 => h9) rfl dX0_walk_81 ?_
      refine sm_get (ci := 1) (C := RX1) (T := TX1) (N := 6) (v := .ref (adr ((a0 + 50) + 2))) hx hb hts hin1 hown hE hP (t0_6 ha0) rfl rfl 2 (by decide) (hts (.fieldLink RX0 83 "OrderMover$Border" "ys" "[I") (by decide +kernel)) (fun _ h9 => h9) rfl dX0_walk_84 ?_
      refine lv_iload hx hb dX0_walk_87 (lv_at hl 0 rfl) ?_
      obtain ⟨c89_317, h⟩ := sm_ck h
      refine sm_iald hx hb hE hP (t1_2 (t0_6 ha0)) c89_317 dX0_walk_89 ?_
      obtain ⟨v90_318, hc90_320, h⟩ := sm_bd h
      refine sm_ci (va_runV (As := [.int (M55_313 ((a0 + 50) + 1) (v55_312).toNatClampNeg), .int (M55_313 ((a0 + 50) + 2) (v55_312).toNatClampNeg)]) (rest := []) ⟨hx, hb, hml, hown, hts⟩ (k_X4_leadTo l D cA adr hJ (a0 + 2) (M55_313 ((a0 + 50) + 1) (v55_312).toNatClampNeg) (M55_313 ((a0 + 50) + 2) (v55_312).toNatClampNeg) (t0_1 ha0) M55_313 v90_318 hc90_320) (cwV 2 hts gX0_walk_X4_leadTo rfl rfl rfl (by decide +kernel) ⟨Nat.le_of_ble_eq_true rfl, Nat.le_of_ble_eq_true rfl⟩) ⟨smPc_bl, smRv hE hP (t0_1 ha0) rfl (ci := 4) (q := (RX4, TX4, 4)) rfl, smPc_in [.ref (adr (a0 + 2)), .int (M55_313 ((a0 + 50) + 1) (v55_312).toNatClampNeg), .int (M55_313 ((a0 + 50) + 2) (v55_312).toNatClampNeg)] hE hP⟩ rfl rfl hl.1 rfl (lv_room (Nat.le_of_ble_eq_true rfl)) dX0_walk_90 ⟨Nat.zero_le _, Nat.zero_le _⟩) hS (fun H locs hP hS => ?_)
      refine lv_if_ne (tgt := 103) hx hb dX0_walk_93 (by decide) (fun c93_321 => ?_) (fun c93_321 => ?_)
      · rw [if_neg c93_321] at h
        refine lv_iinc (v := (x5_40_307 + (1 : Int32))) (lv' := [(5, .int (x5_40_307 + (1 : Int32))), (6, .int v55_312), (0, .ref (adr a0)), (1, .ref (adr a1))]) hx hb dX0_walk_103 hl (k := 3) rfl (congrArg (fun z => x5_40_307 + z) (by decide)) (by decide) rfl (fun ls hl => ?_)
        refine lv_goto (tgt := 40) hx hb dX0_walk_106 (by decide) ?_
        exact ih40_310 ((x5_40_307 + (1 : Int32)), M55_313) _ _ _ h ⟨hP, hS, lv_sub hl [2, 3, 0] rfl⟩
      · rw [if_pos c93_321] at h
        refine lv_aload_n hx hb dX0_walk_96 rfl (lv_at hl 1 rfl) ?_
        refine lv_aload_n hx hb dX0_walk_97 rfl (lv_at hl 2 rfl) ?_
        refine lv_iload hx hb dX0_walk_98 (lv_at hl 0 rfl) ?_
        obtain ⟨M100_323, hc100_324, h⟩ := sm_bd h
        refine sm_cv (va_runV (As := [.ref (adr a1), .int v55_312]) (rest := []) ⟨hx, hb, hml, hown, hts⟩ (k_X0_visit l D cA adr hJ a0 a1 v55_312 ha0 ha1 M55_313 M100_323 hc100_324) (cwV 2 hts gX0_walk_X0_visit rfl rfl rfl (by decide +kernel) ⟨Nat.le_of_ble_eq_true rfl, Nat.le_of_ble_eq_true rfl⟩) ⟨smPc_bl, smRv hE hP ha0 rfl (ci := 0) (q := (RX0, TX0, 9)) rfl, smPc_in [.ref (adr a0), .ref (adr a1), .int v55_312] hE hP⟩ rfl rfl hl.1 rfl (lv_room (Nat.le_of_ble_eq_true rfl)) dX0_walk_100 ⟨Nat.zero_le _, Nat.zero_le _⟩) hS (fun H locs hP hS => ?_)
        refine lv_iinc (v := (x5_40_307 + (1 : Int32))) (lv' := [(5, .int (x5_40_307 + (1 : Int32))), (6, .int v55_312), (0, .ref (adr a0)), (1, .ref (adr a1))]) hx hb dX0_walk_103 hl (k := 3) rfl (congrArg (fun z => x5_40_307 + z) (by decide)) (by decide) rfl (fun ls hl => ?_)
        refine lv_goto (tgt := 40) hx hb dX0_walk_106 (by decide) ?_
        exact ih40_310 ((x5_40_307 + (1 : Int32)), M100_323) _ _ _ h ⟨hP, hS, lv_sub hl [2, 3, 0] rfl⟩
    · rw [if_neg c62_315] at h
      cases h
      exact sm_vret hx hb hr hlocks hP hS dX0_walk_65
set_option maxHeartbeats 4000000 in
set_option maxRecDepth 100000 in
theorem k_X11_isWithin (l : Launch) (D : va_G) (cA : Nat → ClassId) (adr : Nat → Nat) (hJ : smJ 1 adr) (x0 : Int32) (x1 : Int32) (x2 : Int32) (M : smM) (v1 : Int32) (h : m_X11_isWithin x0 x1 x2 M = some v1) : Met l yX11_isWithin wsX11_isWithin ({ frames := 0, cells := 0, slots := 0, locals := 0 }) (smPc D cA 1 adr M [.int x0, .int x1, .int x2]) (smQi D cA 1 adr M v1) 0 0 (smA 1 adr) := by
  refine Met.ofW (cc := cX11_isWithin) (maxL := 3) (ret := (some .boolean)) (by decide) rfl ?_
  intro p e s m args below meth c s₁ B hml hv
  obtain ⟨rfl, hE, hP⟩ := hv
  have hx := B.exec
  have hb := B.bytes
  have hr := B.returns
  have hts := atoms_spec (ws := wsX11_isWithin) B.pre
  have hown : s.vm.findClass RX11 = some m.cls := findClass_of_methodNamed B.named
  have hlocks := B.notSynchronized
  have hS : va_S (smA 1 adr) s.heap s.heap [] := va_S.rf
  have hP : smP D cA 1 adr M s.heap := hP
  have hl := lv_entry ([.int x0, .int x1, .int x2]) (n := 3) (Nat.le_of_ble_eq_true rfl)
  rw [lg_entry_eq]
  generalize (lg_sl ([.int x0, .int x1, .int x2]) ++ List.replicate (3 - (lg_sl ([.int x0, .int x1, .int x2])).length) Slot.unset).toArray = ls at hl ⊢
  have hl : lv_has ls 3 [(0, .int x0), (1, .int x1), (2, .int x2)] := hl
  unfold m_X11_isWithin at h
  refine lv_iload_n hx hb dX11_isWithin_0 rfl (lv_at hl 0 rfl) ?_
  refine lv_iload_n hx hb dX11_isWithin_1 rfl (lv_at hl 1 rfl) ?_
  refine lv_icmp_lt (tgt := 14) hx hb dX11_isWithin_2 (by decide) (fun c2_325 => ?_) (fun c2_325 => ?_)
  · rw [if_pos c2_325] at h
    refine lv_iconst (v := (0 : Int32)) hx hb dX11_isWithin_14 (by decide) ?_
    cases h
    exact sm_zret (by first | rfl | decide) hx hb hr hlocks hP hS dX11_isWithin_15
  · rw [if_neg c2_325] at h
    refine lv_iload_n hx hb dX11_isWithin_5 rfl (lv_at hl 0 rfl) ?_
    refine lv_iload_n hx hb dX11_isWithin_6 rfl (lv_at hl 2 rfl) ?_
    refine lv_icmp_gt (tgt := 14) hx hb dX11_isWithin_7 (by decide) (fun c7_326 => ?_) (fun c7_326 => ?_)
    · rw [if_pos c7_326] at h
      refine lv_iconst (v := (0 : Int32)) hx hb dX11_isWithin_14 (by decide) ?_
      cases h
      exact sm_zret (by first | rfl | decide) hx hb hr hlocks hP hS dX11_isWithin_15
    · rw [if_neg c7_326] at h
      refine lv_iconst (v := (1 : Int32)) hx hb dX11_isWithin_10 (by decide) ?_
      refine lv_goto (tgt := 15) hx hb dX11_isWithin_11 (by decide) ?_
      cases h
      exact sm_zret (by first | rfl | decide) hx hb hr hlocks hP hS dX11_isWithin_15
set_option maxHeartbeats 4000000 in
set_option maxRecDepth 100000 in
theorem k_X11_isOrder (l : Launch) (D : va_G) (cA : Nat → ClassId) (adr : Nat → Nat) (hJ : smJ 1 adr) (x0 : Int32) (M : smM) (v1 : Int32) (h : m_X11_isOrder x0 M = some v1) : Met l yX11_isOrder wsX11_isOrder ({ frames := 1, cells := 0, slots := 0, locals := 22 }) (smPc D cA 1 adr M [.int x0]) (smQi D cA 1 adr M v1) 0 0 (smA 1 adr) := by
  refine Met.ofW (cc := cX11_isOrder) (maxL := 1) (ret := (some .boolean)) (by decide) rfl ?_
  intro p e s m args below meth c s₁ B hml hv
  obtain ⟨rfl, hE, hP⟩ := hv
  have hx := B.exec
  have hb := B.bytes
  have hr := B.returns
  have hts := atoms_spec (ws := wsX11_isOrder) B.pre
  have hown : s.vm.findClass RX11 = some m.cls := findClass_of_methodNamed B.named
  have hlocks := B.notSynchronized
  have hS : va_S (smA 1 adr) s.heap s.heap [] := va_S.rf
  have hP : smP D cA 1 adr M s.heap := hP
  have hl := lv_entry ([.int x0]) (n := 1) (Nat.le_of_ble_eq_true rfl)
  rw [lg_entry_eq]
  generalize (lg_sl ([.int x0]) ++ List.replicate (1 - (lg_sl ([.int x0])).length) Slot.unset).toArray = ls at hl ⊢
  have hl : lv_has ls 1 [(0, .int x0)] := hl
  unfold m_X11_isOrder at h
  refine lv_iload_n hx hb dX11_isOrder_0 rfl (lv_at hl 0 rfl) ?_
  refine lv_iconst (v := (0 : Int32)) hx hb dX11_isOrder_1 (by decide) ?_
  refine lv_iconst (v := (4 : Int32)) hx hb dX11_isOrder_2 (by decide) ?_
  obtain ⟨v3_327, hc3_329, h⟩ := sm_bd h
  refine sm_ci (va_runS (As := [.int x0, .int (0 : Int32), .int (4 : Int32)]) (rest := []) ⟨hx, hb, hml, hown, hts⟩ (k_X11_isWithin l D cA adr hJ x0 (0 : Int32) (4 : Int32)  M v3_327 hc3_329) (va_cwS 3 hts gX11_isOrder_X11_isWithin rfl rfl rfl (by decide +kernel) ⟨Nat.le_of_ble_eq_true rfl, Nat.le_of_ble_eq_true rfl⟩) ⟨smPc_bl, smPc_in [.int x0, .int (0 : Int32), .int (4 : Int32)] hE hP⟩ rfl rfl hl.1 rfl (lv_room (Nat.le_of_ble_eq_true rfl)) dX11_isOrder_3 ⟨Nat.zero_le _, Nat.zero_le _⟩) hS (fun H locs hP hS => ?_)
  cases h
  exact sm_zret (by first | rfl | decide) hx hb hr hlocks hP hS dX11_isOrder_6
set_option maxHeartbeats 4000000 in
set_option maxRecDepth 100000 in
theorem k_X2_baseOf (l : Launch) (D : va_G) (cA : Nat → ClassId) (adr : Nat → Nat) (hJ : smJ 1 adr) (a0 : Nat) (x1 : Int32) (a2 : Nat) (ha0 : smT 1 a0 2) (ha2 : smT 1 a2 7) (M : smM) (v1 : Nat) (M1 : smM) (h : m_X2_baseOf a0 x1 a2 M = some (v1, M1)) : Met l yX2_baseOf wsX2_baseOf ({ frames := 4, cells := 0, slots := 0, locals := 101 }) (smPc D cA 1 adr M [.ref (adr a0), .int x1, .ref (adr a2)]) (smQr D cA 1 adr M1 v1 0) 0 0 (smA 1 adr) := by
  refine Met.ofW (cc := cX2_baseOf) (maxL := 3) (ret := (some (.object "OrderMover$Base"))) (by decide) rfl ?_
  intro p e s m args below meth c s₁ B hml hv
  obtain ⟨rfl, hE, hP⟩ := hv
  have hx := B.exec
  have hb := B.bytes
  have hr := B.returns
  have hts := atoms_spec (ws := wsX2_baseOf) B.pre
  have hown : s.vm.findClass RX2 = some m.cls := findClass_of_methodNamed B.named
  have hlocks := B.notSynchronized
  have hS : va_S (smA 1 adr) s.heap s.heap [] := va_S.rf
  have hP : smP D cA 1 adr M s.heap := hP
  have hl := lv_entry ([.ref (adr a0), .int x1, .ref (adr a2)]) (n := 3) (Nat.le_of_ble_eq_true rfl)
  rw [lg_entry_eq]
  generalize (lg_sl ([.ref (adr a0), .int x1, .ref (adr a2)]) ++ List.replicate (3 - (lg_sl ([.ref (adr a0), .int x1, .ref (adr a2)])).length) Slot.unset).toArray = ls at hl ⊢
  have hl : lv_has ls 3 [(0, .ref (adr a0)), (1, .int x1), (2, .ref (adr a2))] := hl
  unfold m_X2_baseOf at h
  have hin2 : ∀ w ∈ u_ws RX2 TX2 9, w ∈ wsX2_baseOf := by decide +kernel
  have hin7 : ∀ w ∈ u_ws RX7 TX7 7, w ∈ wsX2_baseOf := by decide +kernel
  refine lv_iload_n hx hb dX2_baseOf_0 rfl (lv_at hl 1 rfl) ?_
  obtain ⟨v1_330, hc1_332, h⟩ := sm_bd h
  refine sm_ci (va_runSN (As := [.int x1]) (rest := []) ⟨hx, hb, hml, hown, hts⟩ (k_X11_isOrder l D cA adr hJ x1  M v1_330 hc1_332) ⟨va_cnB (host := "OrderMover") 1 hts gX2_baseOf_X11_isOrder_n89 rfl rfl rfl (hE.2 (RX2, 89, yX11_isOrder, "OrderMover") (by decide +kernel)) (hts (.initialized RX11) (by decide +kernel)) (by decide +kernel) ⟨Nat.le_of_ble_eq_true rfl, Nat.le_of_ble_eq_true rfl⟩, hts (.static yX11_isOrder) (by decide +kernel), trivial⟩ ⟨smPc_bl, smPc_in [.int x1] hE hP⟩ rfl rfl hl.1 rfl (lv_room (Nat.le_of_ble_eq_true rfl)) dX2_baseOf_1 ⟨Nat.zero_le _, Nat.zero_le _⟩) hS (fun H locs hP hS => ?_)
  refine lv_if_ne (tgt := 14) hx hb dX2_baseOf_4 (by decide) (fun c4_333 => ?_) (fun c4_333 => ?_)
  · rw [if_neg c4_333] at h
    refine lv_aload_n hx hb dX2_baseOf_14 rfl (lv_at hl 0 rfl) ?_
    refine sm_get (ci := 2) (C := RX2) (T := TX2) (N := 9) (v := .ref (adr (a0 + 346))) hx hb hts hin2 hown hE hP ha0 rfl rfl 5 (by decide) (hts (.fieldLink RX2 37 "OrderMover$Ideal" "walked" "[Z") (by decide +kernel)) (fun _ h9 => h9) rfl dX2_baseOf_15 ?_
    refine lv_iload_n hx hb dX2_baseOf_18 rfl (lv_at hl 1 rfl) ?_
    obtain ⟨c19_334, h⟩ := sm_ck h
    refine sm_zald hx hb hE hP (t2_5 ha0) c19_334 dX2_baseOf_19 ?_
    refine lv_if_ne (tgt := 52) hx hb dX2_baseOf_20 (by decide) (fun c20_335 => ?_) (fun c20_335 => ?_)
    · rw [if_neg c20_335] at h
      refine lv_aload_n hx hb dX2_baseOf_52 rfl (lv_at hl 0 rfl) ?_
      refine sm_get (ci := 2) (C := RX2) (T := TX2) (N := 9) (v := .ref (adr (a0 + 55))) hx hb hts hin2 hown hE hP ha0 rfl rfl 4 (by decide) (hts (.fieldLink RX2 33 "OrderMover$Ideal" "bases" "[LOrderMover$Base;") (by decide +kernel)) (fun _ h9 => h9) rfl dX2_baseOf_53 ?_
      refine lv_iload_n hx hb dX2_baseOf_56 rfl (lv_at hl 1 rfl) ?_
      obtain ⟨c57_336, h⟩ := sm_ck h
      refine sm_aald26 hx hb hE hP (t2_4 ha0) c57_336 dX2_baseOf_57 ?_
      cases h
      exact sm_aret hx hb hr (by first | exact Or.inl ⟨_, rfl⟩ | exact Or.inr ⟨_, rfl⟩) hlocks (te26 (t2_4 ha0) c57_336) hP hS dX2_baseOf_58
    · rw [if_pos c20_335] at h
      refine lv_aload_n hx hb dX2_baseOf_23 rfl (lv_at hl 0 rfl) ?_
      refine sm_get (ci := 2) (C := RX2) (T := TX2) (N := 9) (v := .ref (adr (a0 + 55))) hx hb hts hin2 hown hE hP ha0 rfl rfl 4 (by decide) (hts (.fieldLink RX2 33 "OrderMover$Ideal" "bases" "[LOrderMover$Base;") (by decide +kernel)) (fun _ h9 => h9) rfl dX2_baseOf_24 ?_
      refine lv_iload_n hx hb dX2_baseOf_27 rfl (lv_at hl 1 rfl) ?_
      obtain ⟨c28_337, h⟩ := sm_ck h
      refine sm_aald26 hx hb hE hP (t2_4 ha0) c28_337 dX2_baseOf_28 ?_
      refine lv_aload_n hx hb dX2_baseOf_29 rfl (lv_at hl 0 rfl) ?_
      refine sm_get (ci := 2) (C := RX2) (T := TX2) (N := 9) (v := .ref (adr (a0 + 1))) hx hb hts hin2 hown hE hP ha0 rfl rfl 0 (by decide) (hts (.fieldLink RX2 12 "OrderMover$Ideal" "quotient" "LOrderMover$Quotient;") (by decide +kernel)) (fun _ h9 => h9) rfl dX2_baseOf_30 ?_
      refine lv_iload_n hx hb dX2_baseOf_33 rfl (lv_at hl 1 rfl) ?_
      refine lv_aload_n hx hb dX2_baseOf_34 rfl (lv_at hl 2 rfl) ?_
      refine sm_get (ci := 7) (C := RX7) (T := TX7) (N := 7) (v := .int (M a2 3)) hx hb hts hin7 hown hE hP ha2 rfl rfl 3 (by decide) (hts (.fieldLink RX2 58 "OrderMover$Setting" "u" "I") (by decide +kernel)) (fun _ h9 => h9) rfl dX2_baseOf_35 ?_
      refine lv_aload_n hx hb dX2_baseOf_38 rfl (lv_at hl 2 rfl) ?_
      refine sm_get (ci := 7) (C := RX7) (T := TX7) (N := 7) (v := .int (M a2 4)) hx hb hts hin7 hown hE hP ha2 rfl rfl 4 (by decide) (hts (.fieldLink RX2 63 "OrderMover$Setting" "v" "I") (by decide +kernel)) (fun _ h9 => h9) rfl dX2_baseOf_39 ?_
      obtain ⟨M42_339, hc42_340, h⟩ := sm_bd h
      refine sm_cv (va_runV (As := [.ref (adr (a0 + 1)), .int x1, .int (M a2 3), .int (M a2 4)]) (rest := []) ⟨hx, hb, hml, hown, hts⟩ (k_X0_walk l D cA adr hJ ((a0 + 55) + 1 + 58 * (x1).toNatClampNeg) (a0 + 1) x1 (M a2 3) (M a2 4) (te26 (t2_4 ha0) c28_337) (t2_0 ha0) M M42_339 hc42_340) (cwV 4 hts gX2_baseOf_X0_walk rfl rfl rfl (by decide +kernel) ⟨Nat.le_of_ble_eq_true rfl, Nat.le_of_ble_eq_true rfl⟩) ⟨smPc_bl, smRv hE hP (te26 (t2_4 ha0) c28_337) rfl (ci := 0) (q := (RX0, TX0, 9)) rfl, smPc_in [.ref (adr ((a0 + 55) + 1 + 58 * (x1).toNatClampNeg)), .ref (adr (a0 + 1)), .int x1, .int (M a2 3), .int (M a2 4)] hE hP⟩ rfl rfl hl.1 rfl (lv_room (Nat.le_of_ble_eq_true rfl)) dX2_baseOf_42 ⟨Nat.zero_le _, Nat.zero_le _⟩) hS (fun H locs hP hS => ?_)
      refine lv_aload_n hx hb dX2_baseOf_45 rfl (lv_at hl 0 rfl) ?_
      refine sm_get (ci := 2) (C := RX2) (T := TX2) (N := 9) (v := .ref (adr (a0 + 346))) hx hb hts hin2 hown hE hP ha0 rfl rfl 5 (by decide) (hts (.fieldLink RX2 37 "OrderMover$Ideal" "walked" "[Z") (by decide +kernel)) (fun _ h9 => h9) rfl dX2_baseOf_46 ?_
      refine lv_iload_n hx hb dX2_baseOf_49 rfl (lv_at hl 1 rfl) ?_
      refine lv_iconst (v := (1 : Int32)) hx hb dX2_baseOf_50 (by decide) ?_
      obtain ⟨c51_341, h⟩ := sm_ck h
      refine sm_zast (y := (1 : Int32)) hx hb hE hJ hP hS (t2_5 ha0) (by decide) c51_341 dX2_baseOf_51 (fun H locs hP hS => ?_)
      obtain ⟨M51_342, hM, h⟩ := sm_lt h
      rw [← hM] at hP; clear hM
      refine lv_aload_n hx hb dX2_baseOf_52 rfl (lv_at hl 0 rfl) ?_
      refine sm_get (ci := 2) (C := RX2) (T := TX2) (N := 9) (v := .ref (adr (a0 + 55))) hx hb hts hin2 hown hE hP ha0 rfl rfl 4 (by decide) (hts (.fieldLink RX2 33 "OrderMover$Ideal" "bases" "[LOrderMover$Base;") (by decide +kernel)) (fun _ h9 => h9) rfl dX2_baseOf_53 ?_
      refine lv_iload_n hx hb dX2_baseOf_56 rfl (lv_at hl 1 rfl) ?_
      obtain ⟨c57_343, h⟩ := sm_ck h
      refine sm_aald26 hx hb hE hP (t2_4 ha0) c57_343 dX2_baseOf_57 ?_
      cases h
      exact sm_aret hx hb hr (by first | exact Or.inl ⟨_, rfl⟩ | exact Or.inr ⟨_, rfl⟩) hlocks (te26 (t2_4 ha0) c57_343) hP hS dX2_baseOf_58
  · rw [if_pos c4_333] at h
    refine lv_aload_n hx hb dX2_baseOf_7 rfl (lv_at hl 0 rfl) ?_
    refine sm_get (ci := 2) (C := RX2) (T := TX2) (N := 9) (v := .ref (adr (a0 + 55))) hx hb hts hin2 hown hE hP ha0 rfl rfl 4 (by decide) (hts (.fieldLink RX2 33 "OrderMover$Ideal" "bases" "[LOrderMover$Base;") (by decide +kernel)) (fun _ h9 => h9) rfl dX2_baseOf_8 ?_
    refine lv_iconst (v := (0 : Int32)) hx hb dX2_baseOf_11 (by decide) ?_
    obtain ⟨c12_344, h⟩ := sm_ck h
    refine sm_aald26 hx hb hE hP (t2_4 ha0) c12_344 dX2_baseOf_12 ?_
    cases h
    exact sm_aret hx hb hr (by first | exact Or.inl ⟨_, rfl⟩ | exact Or.inr ⟨_, rfl⟩) hlocks (te26 (t2_4 ha0) c12_344) hP hS dX2_baseOf_13
set_option maxHeartbeats 4000000 in
set_option maxRecDepth 100000 in
theorem k_X7_coefficients (l : Launch) (D : va_G) (cA : Nat → ClassId) (adr : Nat → Nat) (hJ : smJ 1 adr) (a0 : Nat) (x1 : Int32) (ha0 : smT 1 a0 7) (M : smM) (v1 : Nat) (h : m_X7_coefficients a0 x1 M = some v1) : Met l yX7_coefficients wsX7_coefficients ({ frames := 0, cells := 0, slots := 0, locals := 0 }) (smPc D cA 1 adr M [.ref (adr a0), .int x1]) (smQr D cA 1 adr M v1 20) 0 0 (smA 1 adr) := by
  refine Met.ofW (cc := cX7_coefficients) (maxL := 2) (ret := (some (.array .int))) (by decide) rfl ?_
  intro p e s m args below meth c s₁ B hml hv
  obtain ⟨rfl, hE, hP⟩ := hv
  have hx := B.exec
  have hb := B.bytes
  have hr := B.returns
  have hts := atoms_spec (ws := wsX7_coefficients) B.pre
  have hown : s.vm.findClass RX7 = some m.cls := findClass_of_methodNamed B.named
  have hlocks := B.notSynchronized
  have hS : va_S (smA 1 adr) s.heap s.heap [] := va_S.rf
  have hP : smP D cA 1 adr M s.heap := hP
  have hl := lv_entry ([.ref (adr a0), .int x1]) (n := 2) (Nat.le_of_ble_eq_true rfl)
  rw [lg_entry_eq]
  generalize (lg_sl ([.ref (adr a0), .int x1]) ++ List.replicate (2 - (lg_sl ([.ref (adr a0), .int x1])).length) Slot.unset).toArray = ls at hl ⊢
  have hl : lv_has ls 2 [(0, .ref (adr a0)), (1, .int x1)] := hl
  unfold m_X7_coefficients at h
  have hin7 : ∀ w ∈ u_ws RX7 TX7 7, w ∈ wsX7_coefficients := by decide +kernel
  refine lv_iload_n hx hb dX7_coefficients_0 rfl (lv_at hl 1 rfl) ?_
  refine lv_if_ne (tgt := 11) hx hb dX7_coefficients_1 (by decide) (fun c1_345 => ?_) (fun c1_345 => ?_)
  · rw [if_neg c1_345] at h
    refine lv_aload_n hx hb dX7_coefficients_11 rfl (lv_at hl 0 rfl) ?_
    refine sm_get (ci := 7) (C := RX7) (T := TX7) (N := 7) (v := .ref (adr (a0 + 2))) hx hb hts hin7 hown hE hP ha0 rfl rfl 6 (by decide) (hts (.fieldLink RX7 31 "OrderMover$Setting" "second" "[I") (by decide +kernel)) (fun _ h9 => h9) rfl dX7_coefficients_12 ?_
    cases h
    exact sm_aret hx hb hr (by first | exact Or.inl ⟨_, rfl⟩ | exact Or.inr ⟨_, rfl⟩) hlocks (t7_6 ha0) hP hS dX7_coefficients_15
  · rw [if_pos c1_345] at h
    refine lv_aload_n hx hb dX7_coefficients_4 rfl (lv_at hl 0 rfl) ?_
    refine sm_get (ci := 7) (C := RX7) (T := TX7) (N := 7) (v := .ref (adr (a0 + 1))) hx hb hts hin7 hown hE hP ha0 rfl rfl 5 (by decide) (hts (.fieldLink RX7 27 "OrderMover$Setting" "first" "[I") (by decide +kernel)) (fun _ h9 => h9) rfl dX7_coefficients_5 ?_
    refine lv_goto (tgt := 15) hx hb dX7_coefficients_8 (by decide) ?_
    cases h
    exact sm_aret hx hb hr (by first | exact Or.inl ⟨_, rfl⟩ | exact Or.inr ⟨_, rfl⟩) hlocks (t7_5 ha0) hP hS dX7_coefficients_15
set_option maxHeartbeats 4000000 in
set_option maxRecDepth 100000 in
theorem k_X7_power (l : Launch) (D : va_G) (cA : Nat → ClassId) (adr : Nat → Nat) (hJ : smJ 1 adr) (a0 : Nat) (x1 : Int32) (ha0 : smT 1 a0 7) (M : smM) (v1 : Int32) (h : m_X7_power a0 x1 M = some v1) : Met l yX7_power wsX7_power ({ frames := 0, cells := 0, slots := 0, locals := 0 }) (smPc D cA 1 adr M [.ref (adr a0), .int x1]) (smQi D cA 1 adr M v1) 0 0 (smA 1 adr) := by
  refine Met.ofW (cc := cX7_power) (maxL := 2) (ret := (some .int)) (by decide) rfl ?_
  intro p e s m args below meth c s₁ B hml hv
  obtain ⟨rfl, hE, hP⟩ := hv
  have hx := B.exec
  have hb := B.bytes
  have hr := B.returns
  have hts := atoms_spec (ws := wsX7_power) B.pre
  have hown : s.vm.findClass RX7 = some m.cls := findClass_of_methodNamed B.named
  have hlocks := B.notSynchronized
  have hS : va_S (smA 1 adr) s.heap s.heap [] := va_S.rf
  have hP : smP D cA 1 adr M s.heap := hP
  have hl := lv_entry ([.ref (adr a0), .int x1]) (n := 2) (Nat.le_of_ble_eq_true rfl)
  rw [lg_entry_eq]
  generalize (lg_sl ([.ref (adr a0), .int x1]) ++ List.replicate (2 - (lg_sl ([.ref (adr a0), .int x1])).length) Slot.unset).toArray = ls at hl ⊢
  have hl : lv_has ls 2 [(0, .ref (adr a0)), (1, .int x1)] := hl
  unfold m_X7_power at h
  have hin7 : ∀ w ∈ u_ws RX7 TX7 7, w ∈ wsX7_power := by decide +kernel
  refine lv_iload_n hx hb dX7_power_0 rfl (lv_at hl 1 rfl) ?_
  refine lv_if_ne (tgt := 11) hx hb dX7_power_1 (by decide) (fun c1_346 => ?_) (fun c1_346 => ?_)
  · rw [if_neg c1_346] at h
    refine lv_aload_n hx hb dX7_power_11 rfl (lv_at hl 0 rfl) ?_
    refine sm_get (ci := 7) (C := RX7) (T := TX7) (N := 7) (v := .int (M a0 2)) hx hb hts hin7 hown hE hP ha0 rfl rfl 2 (by decide) (hts (.fieldLink RX7 18 "OrderMover$Setting" "b" "I") (by decide +kernel)) (fun _ h9 => h9) rfl dX7_power_12 ?_
    cases h
    exact sm_iret hx hb hr hlocks hP hS dX7_power_15
  · rw [if_pos c1_346] at h
    refine lv_aload_n hx hb dX7_power_4 rfl (lv_at hl 0 rfl) ?_
    refine sm_get (ci := 7) (C := RX7) (T := TX7) (N := 7) (v := .int (M a0 1)) hx hb hts hin7 hown hE hP ha0 rfl rfl 1 (by decide) (hts (.fieldLink RX7 15 "OrderMover$Setting" "a" "I") (by decide +kernel)) (fun _ h9 => h9) rfl dX7_power_5 ?_
    refine lv_goto (tgt := 15) hx hb dX7_power_8 (by decide) ?_
    cases h
    exact sm_iret hx hb hr hlocks hP hS dX7_power_15
set_option maxHeartbeats 4000000 in
set_option maxRecDepth 100000 in
theorem k_X11_leftOver (l : Launch) (D : va_G) (cA : Nat → ClassId) (adr : Nat → Nat) (hJ : smJ 1 adr) (x0 : Int32) (x1 : Int32) (M : smM) (v1 : Int32) (h : m_X11_leftOver x0 x1 M = some v1) : Met l yX11_leftOver wsX11_leftOver ({ frames := 0, cells := 0, slots := 0, locals := 0 }) (smPc D cA 1 adr M [.int x0, .int x1]) (smQi D cA 1 adr M v1) 0 0 (smA 1 adr) := by
  refine Met.ofW (cc := cX11_leftOver) (maxL := 3) (ret := (some .int)) (by decide) rfl ?_
  intro p e s m args below meth c s₁ B hml hv
  obtain ⟨rfl, hE, hP⟩ := hv
  have hx := B.exec
  have hb := B.bytes
  have hr := B.returns
  have hts := atoms_spec (ws := wsX11_leftOver) B.pre
  have hown : s.vm.findClass RX11 = some m.cls := findClass_of_methodNamed B.named
  have hlocks := B.notSynchronized
  have hS : va_S (smA 1 adr) s.heap s.heap [] := va_S.rf
  have hP : smP D cA 1 adr M s.heap := hP
  have hl := lv_entry ([.int x0, .int x1]) (n := 3) (Nat.le_of_ble_eq_true rfl)
  rw [lg_entry_eq]
  generalize (lg_sl ([.int x0, .int x1]) ++ List.replicate (3 - (lg_sl ([.int x0, .int x1])).length) Slot.unset).toArray = ls at hl ⊢
  have hl : lv_has ls 3 [(0, .int x0), (1, .int x1)] := hl
  unfold m_X11_leftOver at h
  refine lv_iload_n hx hb dX11_leftOver_0 rfl (lv_at hl 1 rfl) ?_
  refine lv_iconst (v := (2 : Int32)) hx hb dX11_leftOver_1 (by decide) ?_
  refine lv_icmp_ge (tgt := 7) hx hb dX11_leftOver_2 (by decide) (fun c2_347 => ?_) (fun c2_347 => ?_)
  · rw [if_pos c2_347] at h
    refine lv_iload_n hx hb dX11_leftOver_7 rfl (lv_at hl 0 rfl) ?_
    refine lv_iload_n hx hb dX11_leftOver_8 rfl (lv_at hl 1 rfl) ?_
    obtain ⟨c9_348, h⟩ := sm_ck h
    refine lv_irem hx hb dX11_leftOver_9 c9_348 ?_
    refine lv_istore_n (lv' := [(2, .int (x0 - x0 / x1 * x1)), (0, .int x0), (1, .int x1)]) hx hb dX11_leftOver_10 rfl hl (by decide) rfl (fun ls hl => ?_)
    refine lv_iload_n hx hb dX11_leftOver_11 rfl (lv_at hl 0 rfl) ?_
    refine lv_if_ge (tgt := 21) hx hb dX11_leftOver_12 (by decide) (fun c12_349 => ?_) (fun c12_349 => ?_)
    · rw [if_pos c12_349] at h
      refine lv_iload_n hx hb dX11_leftOver_21 rfl (lv_at hl 0 rfl) ?_
      cases h
      exact sm_iret hx hb hr hlocks hP hS dX11_leftOver_22
    · rw [if_neg c12_349] at h
      refine lv_iload_n hx hb dX11_leftOver_15 rfl (lv_at hl 0 rfl) ?_
      refine lv_iload_n hx hb dX11_leftOver_16 rfl (lv_at hl 2 rfl) ?_
      refine lv_iadd hx hb dX11_leftOver_17 ?_
      refine lv_goto (tgt := 22) hx hb dX11_leftOver_18 (by decide) ?_
      cases h
      exact sm_iret hx hb hr hlocks hP hS dX11_leftOver_22
  · rw [if_neg c2_347] at h
    refine lv_iconst (v := (0 : Int32)) hx hb dX11_leftOver_5 (by decide) ?_
    cases h
    exact sm_iret hx hb hr hlocks hP hS dX11_leftOver_6
set_option maxHeartbeats 4000000 in
set_option maxRecDepth 100000 in
theorem k_X6_bringTail (l : Launch) (D : va_G) (cA : Nat → ClassId) (adr : Nat → Nat) (hJ : smJ 1 adr) (a0 : Nat) (a1 : Nat) (x2 : Int32) (x3 : Int32) (x4 : Int32) (a5 : Nat) (ha0 : smT 1 a0 6) (ha1 : smT 1 a1 7) (ha5 : smT 1 a5 20) (M : smM) (M1 : smM) (h : m_X6_bringTail a0 a1 x2 x3 x4 a5 M = some M1) : Met l yX6_bringTail wsX6_bringTail ({ frames := 1, cells := 0, slots := 0, locals := 24 }) (smPc D cA 1 adr M [.ref (adr a0), .ref (adr a1), .int x2, .int x3, .int x4, .ref (adr a5)]) (smQv D cA 1 adr M1) 0 0 (smA 1 adr) := by
  refine Met.ofW (cc := cX6_bringTail) (maxL := 11) (ret := none) (by decide) rfl ?_
  intro p e s m args below meth c s₁ B hml hv
  obtain ⟨rfl, hE, hP⟩ := hv
  have hx := B.exec
  have hb := B.bytes
  have hr := B.returns
  have hts := atoms_spec (ws := wsX6_bringTail) B.pre
  have hown : s.vm.findClass RX6 = some m.cls := findClass_of_methodNamed B.named
  have hlocks := B.notSynchronized
  have hS : va_S (smA 1 adr) s.heap s.heap [] := va_S.rf
  have hP : smP D cA 1 adr M s.heap := hP
  have hl := lv_entry ([.ref (adr a0), .ref (adr a1), .int x2, .int x3, .int x4, .ref (adr a5)]) (n := 11) (Nat.le_of_ble_eq_true rfl)
  rw [lg_entry_eq]
  generalize (lg_sl ([.ref (adr a0), .ref (adr a1), .int x2, .int x3, .int x4, .ref (adr a5)]) ++ List.replicate (11 - (lg_sl ([.ref (adr a0), .ref (adr a1), .int x2, .int x3, .int x4, .ref (adr a5)])).length) Slot.unset).toArray = ls at hl ⊢
  have hl : lv_has ls 11 [(0, .ref (adr a0)), (1, .ref (adr a1)), (2, .int x2), (3, .int x3), (4, .int x4), (5, .ref (adr a5))] := hl
  unfold m_X6_bringTail at h
  have hin6 : ∀ w ∈ u_ws RX6 TX6 5, w ∈ wsX6_bringTail := by decide +kernel
  refine lv_aload_n hx hb dX6_bringTail_0 rfl (lv_at hl 1 rfl) ?_
  refine lv_iload_n hx hb dX6_bringTail_1 rfl (lv_at hl 2 rfl) ?_
  obtain ⟨v2_350, hc2_352, h⟩ := sm_bd h
  refine sm_cr (va_runV (As := [.int x2]) (rest := []) ⟨hx, hb, hml, hown, hts⟩ (k_X7_coefficients l D cA adr hJ a1 x2 ha1 M v2_350 hc2_352) (cwV 1 hts gX6_bringTail_X7_coefficients rfl rfl rfl (by decide +kernel) ⟨Nat.le_of_ble_eq_true rfl, Nat.le_of_ble_eq_true rfl⟩) ⟨smPc_bl, smRv hE hP ha1 rfl (ci := 7) (q := (RX7, TX7, 7)) rfl, smPc_in [.ref (adr a1), .int x2] hE hP⟩ rfl rfl hl.1 rfl (lv_room (Nat.le_of_ble_eq_true rfl)) dX6_bringTail_2 ⟨Nat.zero_le _, Nat.zero_le _⟩) hS (fun H locs hk2_353 hP hS => ?_)
  refine lv_astore (lv' := [(6, .ref (adr v2_350)), (0, .ref (adr a0)), (1, .ref (adr a1)), (2, .int x2), (3, .int x3), (4, .int x4), (5, .ref (adr a5))]) hx hb dX6_bringTail_5 hl (by decide) rfl (fun ls hl => ?_)
  refine lv_aload_n hx hb dX6_bringTail_7 rfl (lv_at hl 2 rfl) ?_
  refine lv_iload_n hx hb dX6_bringTail_8 rfl (lv_at hl 3 rfl) ?_
  obtain ⟨v9_354, hc9_356, h⟩ := sm_bd h
  refine sm_ci (va_runV (As := [.int x2]) (rest := []) ⟨hx, hb, hml, hown, hts⟩ (k_X7_power l D cA adr hJ a1 x2 ha1 M v9_354 hc9_356) (cwV 1 hts gX6_bringTail_X7_power rfl rfl rfl (by decide +kernel) ⟨Nat.le_of_ble_eq_true rfl, Nat.le_of_ble_eq_true rfl⟩) ⟨smPc_bl, smRv hE hP ha1 rfl (ci := 7) (q := (RX7, TX7, 7)) rfl, smPc_in [.ref (adr a1), .int x2] hE hP⟩ rfl rfl hl.1 rfl (lv_room (Nat.le_of_ble_eq_true rfl)) dX6_bringTail_9 ⟨Nat.zero_le _, Nat.zero_le _⟩) hS (fun H locs hP hS => ?_)
  refine lv_istore (lv' := [(7, .int v9_354), (6, .ref (adr v2_350)), (0, .ref (adr a0)), (1, .ref (adr a1)), (2, .int x2), (3, .int x3), (4, .int x4), (5, .ref (adr a5))]) hx hb dX6_bringTail_12 hl (by decide) rfl (fun ls hl => ?_)
  refine lv_iconst (v := (0 : Int32)) hx hb dX6_bringTail_14 (by decide) ?_
  refine lv_istore (lv' := [(8, .int (0 : Int32)), (7, .int v9_354), (6, .ref (adr v2_350)), (0, .ref (adr a0)), (1, .ref (adr a1)), (2, .int x2), (3, .int x3), (4, .int x4), (5, .ref (adr a5))]) hx hb dX6_bringTail_15 hl (by decide) rfl (fun ls hl => ?_)
  refine sm_lp (b := fun rc q => m_X6_bringTail_b17 a0 x3 x4 a5 v2_350 v9_354 rc q.1 q.2) (P := fun (q : Int32 × smM) H locs ls => smP D cA 1 adr q.2 H ∧ va_S (smA 1 adr) s.heap H locs ∧ lv_has ls 11 [(0, .ref (adr a0)), (3, .int x3), (4, .int x4), (5, .ref (adr a5)), (6, .ref (adr v2_350)), (7, .int v9_354), (8, .int q.1)]) (pc := 17) ?_ _ _ _ _ _ h ⟨hP, hS, lv_sub hl [3, 6, 7, 8, 2, 1, 0] rfl⟩
  intro rc17_359 ih17_360 q H locs ls h hI
  obtain ⟨x8_17_357, M17_358⟩ := q
  obtain ⟨hP, hS, hl⟩ := hI
  have hP : smP D cA 1 adr M17_358 H := hP
  have hl : lv_has ls 11 [(0, .ref (adr a0)), (3, .int x3), (4, .int x4), (5, .ref (adr a5)), (6, .ref (adr v2_350)), (7, .int v9_354), (8, .int x8_17_357)] := hl
  have h : m_X6_bringTail_b17 a0 x3 x4 a5 v2_350 v9_354 rc17_359 x8_17_357 M17_358 = some _ := h
  unfold m_X6_bringTail_b17 at h
  refine lv_iload hx hb dX6_bringTail_17 (lv_at hl 6 rfl) ?_
  refine lv_iload hx hb dX6_bringTail_19 (lv_at hl 5 rfl) ?_
  refine lv_icmp_ge (tgt := 93) hx hb dX6_bringTail_21 (by decide) (fun c21_361 => ?_) (fun c21_361 => ?_)
  · rw [if_pos c21_361] at h
    cases h
    exact sm_vret hx hb hr hlocks hP hS dX6_bringTail_93
  · rw [if_neg c21_361] at h
    refine lv_iconst (v := (0 : Int32)) hx hb dX6_bringTail_24 (by decide) ?_
    refine lv_istore (lv' := [(9, .int (0 : Int32)), (0, .ref (adr a0)), (3, .int x3), (4, .int x4), (5, .ref (adr a5)), (6, .ref (adr v2_350)), (7, .int v9_354), (8, .int x8_17_357)]) hx hb dX6_bringTail_25 hl (by decide) rfl (fun ls hl => ?_)
    refine sm_lp (b := fun rc q => m_X6_bringTail_b27 a0 x3 x4 a5 v2_350 v9_354 x8_17_357 rc17_359 rc q.1 q.2) (P := fun (q : Int32 × smM) H locs ls => smP D cA 1 adr q.2 H ∧ va_S (smA 1 adr) s.heap H locs ∧ lv_has ls 11 [(0, .ref (adr a0)), (3, .int x3), (4, .int x4), (5, .ref (adr a5)), (6, .ref (adr v2_350)), (7, .int v9_354), (8, .int x8_17_357), (9, .int q.1)]) (pc := 27) ?_ _ _ _ _ _ h ⟨hP, hS, lv_sub hl [1, 2, 3, 4, 5, 6, 7, 0] rfl⟩
    intro rc27_364 ih27_365 q H locs ls h hI
    obtain ⟨x9_27_362, M27_363⟩ := q
    obtain ⟨hP, hS, hl⟩ := hI
    have hP : smP D cA 1 adr M27_363 H := hP
    have hl : lv_has ls 11 [(0, .ref (adr a0)), (3, .int x3), (4, .int x4), (5, .ref (adr a5)), (6, .ref (adr v2_350)), (7, .int v9_354), (8, .int x8_17_357), (9, .int x9_27_362)] := hl
    have h : m_X6_bringTail_b27 a0 x3 x4 a5 v2_350 v9_354 x8_17_357 rc17_359 rc27_364 x9_27_362 M27_363 = some _ := h
    unfold m_X6_bringTail_b27 at h
    refine lv_iload hx hb dX6_bringTail_27 (lv_at hl 7 rfl) ?_
    refine lv_iload hx hb dX6_bringTail_29 (lv_at hl 5 rfl) ?_
    refine lv_iload hx hb dX6_bringTail_31 (lv_at hl 6 rfl) ?_
    refine lv_isub hx hb dX6_bringTail_33 ?_
    refine lv_icmp_ge (tgt := 87) hx hb dX6_bringTail_34 (by decide) (fun c34_366 => ?_) (fun c34_366 => ?_)
    · rw [if_pos c34_366] at h
      refine lv_iinc (v := (x8_17_357 + (1 : Int32))) (lv' := [(8, .int (x8_17_357 + (1 : Int32))), (0, .ref (adr a0)), (3, .int x3), (4, .int x4), (5, .ref (adr a5)), (6, .ref (adr v2_350)), (7, .int v9_354), (9, .int x9_27_362)]) hx hb dX6_bringTail_87 hl (k := 6) rfl (congrArg (fun z => x8_17_357 + z) (by decide)) (by decide) rfl (fun ls hl => ?_)
      refine lv_goto (tgt := 17) hx hb dX6_bringTail_90 (by decide) ?_
      exact ih17_360 ((x8_17_357 + (1 : Int32)), M27_363) _ _ _ h ⟨hP, hS, lv_sub hl [1, 2, 3, 4, 5, 6, 0] rfl⟩
    · rw [if_neg c34_366] at h
      refine lv_aload hx hb dX6_bringTail_37 (lv_at hl 4 rfl) ?_
      refine lv_iconst (v := (3 : Int32)) hx hb dX6_bringTail_39 (by decide) ?_
      refine lv_iload hx hb dX6_bringTail_40 (lv_at hl 6 rfl) ?_
      refine lv_imul hx hb dX6_bringTail_42 ?_
      refine lv_iload hx hb dX6_bringTail_43 (lv_at hl 7 rfl) ?_
      refine lv_iadd hx hb dX6_bringTail_45 ?_
      obtain ⟨c46_367, h⟩ := sm_ck h
      refine sm_iald hx hb hE hP hk2_353 c46_367 dX6_bringTail_46 ?_
      refine lv_ineg hx hb dX6_bringTail_47 ?_
      refine lv_aload_n hx hb dX6_bringTail_48 rfl (lv_at hl 0 rfl) ?_
      refine sm_get (ci := 6) (C := RX6) (T := TX6) (N := 5) (v := .int (M27_363 a0 0)) hx hb hts hin6 hown hE hP ha0 rfl rfl 0 (by decide) (hts (.fieldLink RX6 26 "OrderMover$Quotient" "p" "I") (by decide +kernel)) (fun _ h9 => h9) rfl dX6_bringTail_49 ?_
      obtain ⟨v52_368, hc52_370, h⟩ := sm_bd h
      refine sm_ci (va_runSN (As := [.int (-(M27_363 v2_350 ((((3 : Int32) * x8_17_357) + x9_27_362)).toNatClampNeg)), .int (M27_363 a0 0)]) (rest := []) ⟨hx, hb, hml, hown, hts⟩ (k_X11_leftOver l D cA adr hJ (-(M27_363 v2_350 ((((3 : Int32) * x8_17_357) + x9_27_362)).toNatClampNeg)) (M27_363 a0 0)  M27_363 v52_368 hc52_370) ⟨va_cnB (host := "OrderMover") 2 hts gX6_bringTail_X11_leftOver_n63 rfl rfl rfl (hE.2 (RX6, 63, yX11_leftOver, "OrderMover") (by decide +kernel)) (hts (.initialized RX11) (by decide +kernel)) (by decide +kernel) ⟨Nat.le_of_ble_eq_true rfl, Nat.le_of_ble_eq_true rfl⟩, hts (.static yX11_leftOver) (by decide +kernel), trivial⟩ ⟨smPc_bl, smPc_in [.int (-(M27_363 v2_350 ((((3 : Int32) * x8_17_357) + x9_27_362)).toNatClampNeg)), .int (M27_363 a0 0)] hE hP⟩ rfl rfl hl.1 rfl (lv_room (Nat.le_of_ble_eq_true rfl)) dX6_bringTail_52 ⟨Nat.zero_le _, Nat.zero_le _⟩) hS (fun H locs hP hS => ?_)
      refine lv_istore (lv' := [(10, .int v52_368), (0, .ref (adr a0)), (3, .int x3), (4, .int x4), (5, .ref (adr a5)), (6, .ref (adr v2_350)), (7, .int v9_354), (8, .int x8_17_357), (9, .int x9_27_362)]) hx hb dX6_bringTail_55 hl (by decide) rfl (fun ls hl => ?_)
      refine lv_aload hx hb dX6_bringTail_57 (lv_at hl 4 rfl) ?_
      refine lv_aload_n hx hb dX6_bringTail_59 rfl (lv_at hl 1 rfl) ?_
      refine lv_iload_n hx hb dX6_bringTail_60 rfl (lv_at hl 2 rfl) ?_
      refine lv_iload hx hb dX6_bringTail_61 (lv_at hl 8 rfl) ?_
      refine lv_iadd hx hb dX6_bringTail_63 ?_
      refine lv_iload hx hb dX6_bringTail_64 (lv_at hl 3 rfl) ?_
      refine lv_iload hx hb dX6_bringTail_66 (lv_at hl 7 rfl) ?_
      refine lv_iadd hx hb dX6_bringTail_68 ?_
      obtain ⟨v69_371, hc69_373, h⟩ := sm_bd h
      refine sm_cr (va_runV (As := [.int (x3 + x9_27_362), .int (x4 + x8_17_357)]) (rest := [.ref (adr a5)]) ⟨hx, hb, hml, hown, hts⟩ (k_X6_formAt l D cA adr hJ a0 (x3 + x9_27_362) (x4 + x8_17_357) ha0 M27_363 v69_371 hc69_373) (cwV 2 hts gX6_bringTail_X6_formAt rfl rfl rfl (by decide +kernel) ⟨Nat.le_of_ble_eq_true rfl, Nat.le_of_ble_eq_true rfl⟩) ⟨smPc_bl, smRv hE hP ha0 rfl (ci := 6) (q := (RX6, TX6, 5)) rfl, smPc_in [.ref (adr a0), .int (x3 + x9_27_362), .int (x4 + x8_17_357)] hE hP⟩ rfl rfl hl.1 rfl (lv_room (Nat.le_of_ble_eq_true rfl)) dX6_bringTail_69 ⟨Nat.zero_le _, Nat.zero_le _⟩) hS (fun H locs hk69_374 hP hS => ?_)
      refine lv_iload hx hb dX6_bringTail_72 (lv_at hl 0 rfl) ?_
      refine lv_aload_n hx hb dX6_bringTail_74 rfl (lv_at hl 1 rfl) ?_
      refine sm_get (ci := 6) (C := RX6) (T := TX6) (N := 5) (v := .int (M27_363 a0 0)) hx hb hts hin6 hown hE hP ha0 rfl rfl 0 (by decide) (hts (.fieldLink RX6 26 "OrderMover$Quotient" "p" "I") (by decide +kernel)) (fun _ h9 => h9) rfl dX6_bringTail_75 ?_
      obtain ⟨M78_376, hc78_377, h⟩ := sm_bd h
      refine sm_cv (va_runSN (As := [.ref (adr a5), .ref (adr v69_371), .int v52_368, .int (M27_363 a0 0)]) (rest := []) ⟨hx, hb, hml, hown, hts⟩ (k_X11_bringMultiple l D cA adr hJ a5 v69_371 v52_368 (M27_363 a0 0) ha5 hk69_374 M27_363 M78_376 hc78_377) ⟨va_cnB (host := "OrderMover") 4 hts gX6_bringTail_X11_bringMultiple_n67 rfl rfl rfl (hE.2 (RX6, 67, yX11_bringMultiple, "OrderMover") (by decide +kernel)) (hts (.initialized RX11) (by decide +kernel)) (by decide +kernel) ⟨Nat.le_of_ble_eq_true rfl, Nat.le_of_ble_eq_true rfl⟩, hts (.static yX11_bringMultiple) (by decide +kernel), trivial⟩ ⟨smPc_bl, smPc_in [.ref (adr a5), .ref (adr v69_371), .int v52_368, .int (M27_363 a0 0)] hE hP⟩ rfl rfl hl.1 rfl (lv_room (Nat.le_of_ble_eq_true rfl)) dX6_bringTail_78 ⟨Nat.zero_le _, Nat.zero_le _⟩) hS (fun H locs hP hS => ?_)
      refine lv_iinc (v := (x9_27_362 + (1 : Int32))) (lv' := [(9, .int (x9_27_362 + (1 : Int32))), (10, .int v52_368), (0, .ref (adr a0)), (3, .int x3), (4, .int x4), (5, .ref (adr a5)), (6, .ref (adr v2_350)), (7, .int v9_354), (8, .int x8_17_357)]) hx hb dX6_bringTail_81 hl (k := 8) rfl (congrArg (fun z => x9_27_362 + z) (by decide)) (by decide) rfl (fun ls hl => ?_)
      refine lv_goto (tgt := 27) hx hb dX6_bringTail_84 (by decide) ?_
      exact ih27_365 ((x9_27_362 + (1 : Int32)), M78_376) _ _ _ h ⟨hP, hS, lv_sub hl [2, 3, 4, 5, 6, 7, 8, 0] rfl⟩
