set_option maxHeartbeats 4000000 in
set_option maxRecDepth 100000 in
theorem k_X12_hasTwice (l : Launch) (D : va_G) (cA : Nat → ClassId) (adr : Nat → Nat) (hJ : smJ 2 adr) (a0 : Nat) (x1 : Int32) (ha0 : smT 2 a0 12) (M : smM) (v1 : Int32) (M1 : smM) (h : m_X12_hasTwice a0 x1 M = some (v1, M1)) : Met l yX12_hasTwice wsX12_hasTwice ({ frames := 6, cells := 0, slots := 0, locals := 140 }) (smPc D cA 2 adr M [.ref (adr a0), .int x1]) (smQi D cA 2 adr M1 v1) 0 0 (smA 2 adr) := by
  refine Met.ofW (cc := cX12_hasTwice) (maxL := 7) (ret := (some .boolean)) (by decide) rfl ?_
  intro p e s m args below meth c s₁ B hml hv
  obtain ⟨rfl, hE, hP⟩ := hv
  have hx := B.exec
  have hb := B.bytes
  have hr := B.returns
  have hts := atoms_spec (ws := wsX12_hasTwice) B.pre
  have hown : s.vm.findClass RX12 = some m.cls := findClass_of_methodNamed B.named
  have hlocks := B.notSynchronized
  have hS : va_S (smA 2 adr) s.heap s.heap [] := va_S.rf
  have hP : smP D cA 2 adr M s.heap := hP
  have hl := lv_entry ([.ref (adr a0), .int x1]) (n := 7) (Nat.le_of_ble_eq_true rfl)
  rw [lg_entry_eq]
  generalize (lg_sl ([.ref (adr a0), .int x1]) ++ List.replicate (7 - (lg_sl ([.ref (adr a0), .int x1])).length) Slot.unset).toArray = ls at hl ⊢
  have hl : lv_has ls 7 [(0, .ref (adr a0)), (1, .int x1)] := hl
  unfold m_X12_hasTwice at h
  have hin12 : ∀ w ∈ u_ws RX12 TX12 54, w ∈ wsX12_hasTwice := by decide +kernel
  refine lv_aload_n hx hb dX12_hasTwice_0 rfl (lv_at hl 0 rfl) ?_
  refine lv_iload_n hx hb dX12_hasTwice_1 rfl (lv_at hl 1 rfl) ?_
  obtain ⟨M2_2515, hc2_2516, h⟩ := sm_bd h
  refine sm_cv (va_runV (As := [.int x1]) (rest := []) ⟨hx, hb, hml, hown, hts⟩ (k_X12_findsLeast l D cA adr hJ a0 x1 ha0 M M2_2515 hc2_2516) (cwV 1 hts gX12_hasTwice_X12_findsLeast rfl rfl rfl (by decide +kernel) ⟨Nat.le_of_ble_eq_true rfl, Nat.le_of_ble_eq_true rfl⟩) ⟨smPc_bl, smRv hE hP ha0 rfl (ci := 12) (q := (RX12, TX12, 54)) rfl, smPc_in [.ref (adr a0), .int x1] hE hP⟩ rfl rfl hl.1 rfl (lv_room (Nat.le_of_ble_eq_true rfl)) dX12_hasTwice_2 ⟨Nat.zero_le _, Nat.zero_le _⟩) hS (fun H locs hP hS => ?_)
  refine lv_iconst (v := (0 : Int32)) hx hb dX12_hasTwice_5 (by decide) ?_
  refine lv_istore_n (lv' := [(2, .int (0 : Int32)), (0, .ref (adr a0)), (1, .int x1)]) hx hb dX12_hasTwice_6 rfl hl (by decide) rfl (fun ls hl => ?_)
  refine sm_lp (b := fun rc q => m_X12_hasTwice_b7 a0 rc q.1 q.2) (P := fun (q : Int32 × smM) H locs ls => smP D cA 2 adr q.2 H ∧ va_S (smA 2 adr) s.heap H locs ∧ lv_has ls 7 [(0, .ref (adr a0)), (2, .int q.1)]) (pc := 7) ?_ _ _ _ _ _ h ⟨hP, hS, lv_sub hl [1, 0] rfl⟩
  intro rc7_2519 ih7_2520 q H locs ls h hI
  obtain ⟨x2_7_2517, M7_2518⟩ := q
  obtain ⟨hP, hS, hl⟩ := hI
  have hP : smP D cA 2 adr M7_2518 H := hP
  have hl : lv_has ls 7 [(0, .ref (adr a0)), (2, .int x2_7_2517)] := hl
  have h : m_X12_hasTwice_b7 a0 rc7_2519 x2_7_2517 M7_2518 = some _ := h
  unfold m_X12_hasTwice_b7 at h
  refine lv_iload_n hx hb dX12_hasTwice_7 rfl (lv_at hl 1 rfl) ?_
  refine lv_bipush (v := (10 : Int32)) hx hb dX12_hasTwice_8 (by decide) ?_
  refine lv_icmp_ge (tgt := 50) hx hb dX12_hasTwice_10 (by decide) (fun c10_2521 => ?_) (fun c10_2521 => ?_)
  · rw [if_pos c10_2521] at h
    refine lv_iconst (v := (1 : Int32)) hx hb dX12_hasTwice_50 (by decide) ?_
    refine lv_istore_n (lv' := [(2, .int (1 : Int32)), (0, .ref (adr a0))]) hx hb dX12_hasTwice_51 rfl hl (by decide) rfl (fun ls hl => ?_)
    refine sm_lp (b := fun rc q => m_X12_hasTwice_b52 a0 rc7_2519 rc q.1 q.2) (P := fun (q : Int32 × smM) H locs ls => smP D cA 2 adr q.2 H ∧ va_S (smA 2 adr) s.heap H locs ∧ lv_has ls 7 [(0, .ref (adr a0)), (2, .int q.1)]) (pc := 52) ?_ _ _ _ _ _ h ⟨hP, hS, lv_sub hl [1, 0] rfl⟩
    intro rc52_2524 ih52_2525 q H locs ls h hI
    obtain ⟨x2_52_2522, M52_2523⟩ := q
    obtain ⟨hP, hS, hl⟩ := hI
    have hP : smP D cA 2 adr M52_2523 H := hP
    have hl : lv_has ls 7 [(0, .ref (adr a0)), (2, .int x2_52_2522)] := hl
    have h : m_X12_hasTwice_b52 a0 rc7_2519 rc52_2524 x2_52_2522 M52_2523 = some _ := h
    unfold m_X12_hasTwice_b52 at h
    refine lv_iload_n hx hb dX12_hasTwice_52 rfl (lv_at hl 1 rfl) ?_
    refine lv_aload_n hx hb dX12_hasTwice_53 rfl (lv_at hl 0 rfl) ?_
    refine sm_get (ci := 12) (C := RX12) (T := TX12) (N := 54) (v := .int (M52_2523 a0 43)) hx hb hts hin12 hown hE hP ha0 rfl rfl 43 (by decide) (hts (.fieldLink RX12 275 "OrderMoverModel" "degree" "I") (by decide +kernel)) (fun _ h9 => h9) rfl dX12_hasTwice_54 ?_
    refine lv_icmp_gt (tgt := 92) hx hb dX12_hasTwice_57 (by decide) (fun c57_2526 => ?_) (fun c57_2526 => ?_)
    · rw [if_pos c57_2526] at h
      refine sm_lp (b := fun rc q => m_X12_hasTwice_b92 a0 rc7_2519 rc52_2524 rc q) (P := fun (q : smM) H locs ls => smP D cA 2 adr q H ∧ va_S (smA 2 adr) s.heap H locs ∧ lv_has ls 7 [(0, .ref (adr a0))]) (pc := 92) ?_ _ _ _ _ _ h ⟨hP, hS, lv_sub hl [0] rfl⟩
      intro rc92_2528 ih92_2529 q H locs ls h hI
      obtain ⟨M92_2527, hq⟩ : ∃ y, y = q := ⟨_, rfl⟩; subst hq
      obtain ⟨hP, hS, hl⟩ := hI
      have hP : smP D cA 2 adr M92_2527 H := hP
      have hl : lv_has ls 7 [(0, .ref (adr a0))] := hl
      have h : m_X12_hasTwice_b92 a0 rc7_2519 rc52_2524 rc92_2528 M92_2527 = some _ := h
      unfold m_X12_hasTwice_b92 at h
      refine lv_aload_n hx hb dX12_hasTwice_92 rfl (lv_at hl 0 rfl) ?_
      refine sm_get (ci := 12) (C := RX12) (T := TX12) (N := 54) (v := .ref (adr (a0 + 34))) hx hb hts hin12 hown hE hP ha0 rfl rfl 45 (by decide) (hts (.fieldLink RX12 126 "OrderMoverModel" "other" "[I") (by decide +kernel)) (fun _ h9 => h9) rfl dX12_hasTwice_93 ?_
      obtain ⟨v96_2530, hc96_2532, h⟩ := sm_bd h
      refine sm_ci (va_runS (As := [.ref (adr (a0 + 34))]) (rest := []) ⟨hx, hb, hml, hown, hts⟩ (k_X12_highOf l D cA adr hJ (a0 + 34) (t12_45 ha0) M92_2527 v96_2530 hc96_2532) (va_cwS 1 hts gX12_hasTwice_X12_highOf rfl rfl rfl (by decide +kernel) ⟨Nat.le_of_ble_eq_true rfl, Nat.le_of_ble_eq_true rfl⟩) ⟨smPc_bl, smPc_in [.ref (adr (a0 + 34))] hE hP⟩ rfl rfl hl.1 rfl (lv_room (Nat.le_of_ble_eq_true rfl)) dX12_hasTwice_96 ⟨Nat.zero_le _, Nat.zero_le _⟩) hS (fun H locs hP hS => ?_)
      refine lv_if_lt (tgt := 266) hx hb dX12_hasTwice_99 (by decide) (fun c99_2533 => ?_) (fun c99_2533 => ?_)
      · rw [if_pos c99_2533] at h
        refine lv_aload_n hx hb dX12_hasTwice_266 rfl (lv_at hl 0 rfl) ?_
        refine sm_get (ci := 12) (C := RX12) (T := TX12) (N := 54) (v := .ref (adr (a0 + 33))) hx hb hts hin12 hown hE hP ha0 rfl rfl 44 (by decide) (hts (.fieldLink RX12 123 "OrderMoverModel" "one" "[I") (by decide +kernel)) (fun _ h9 => h9) rfl dX12_hasTwice_267 ?_
        obtain ⟨v270_2534, hc270_2536, h⟩ := sm_bd h
        refine sm_ci (va_runS (As := [.ref (adr (a0 + 33))]) (rest := []) ⟨hx, hb, hml, hown, hts⟩ (k_X12_highOf l D cA adr hJ (a0 + 33) (t12_44 ha0) M92_2527 v270_2534 hc270_2536) (va_cwS 1 hts gX12_hasTwice_X12_highOf rfl rfl rfl (by decide +kernel) ⟨Nat.le_of_ble_eq_true rfl, Nat.le_of_ble_eq_true rfl⟩) ⟨smPc_bl, smPc_in [.ref (adr (a0 + 33))] hE hP⟩ rfl rfl hl.1 rfl (lv_room (Nat.le_of_ble_eq_true rfl)) dX12_hasTwice_270 ⟨Nat.zero_le _, Nat.zero_le _⟩) hS (fun H locs hP hS => ?_)
        refine lv_if_le (tgt := 280) hx hb dX12_hasTwice_273 (by decide) (fun c273_2537 => ?_) (fun c273_2537 => ?_)
        · rw [if_pos c273_2537] at h
          refine lv_iconst (v := (0 : Int32)) hx hb dX12_hasTwice_280 (by decide) ?_
          cases h
          exact sm_zret (by first | rfl | decide) hx hb hr hlocks hP hS dX12_hasTwice_281
        · rw [if_neg c273_2537] at h
          refine lv_iconst (v := (1 : Int32)) hx hb dX12_hasTwice_276 (by decide) ?_
          refine lv_goto (tgt := 281) hx hb dX12_hasTwice_277 (by decide) ?_
          cases h
          exact sm_zret (by first | rfl | decide) hx hb hr hlocks hP hS dX12_hasTwice_281
      · rw [if_neg c99_2533] at h
        refine lv_aload_n hx hb dX12_hasTwice_102 rfl (lv_at hl 0 rfl) ?_
        refine sm_get (ci := 12) (C := RX12) (T := TX12) (N := 54) (v := .ref (adr (a0 + 34))) hx hb hts hin12 hown hE hP ha0 rfl rfl 45 (by decide) (hts (.fieldLink RX12 126 "OrderMoverModel" "other" "[I") (by decide +kernel)) (fun _ h9 => h9) rfl dX12_hasTwice_103 ?_
        obtain ⟨v106_2538, hc106_2540, h⟩ := sm_bd h
        refine sm_ci (va_runS (As := [.ref (adr (a0 + 34))]) (rest := []) ⟨hx, hb, hml, hown, hts⟩ (k_X12_highOf l D cA adr hJ (a0 + 34) (t12_45 ha0) M92_2527 v106_2538 hc106_2540) (va_cwS 1 hts gX12_hasTwice_X12_highOf rfl rfl rfl (by decide +kernel) ⟨Nat.le_of_ble_eq_true rfl, Nat.le_of_ble_eq_true rfl⟩) ⟨smPc_bl, smPc_in [.ref (adr (a0 + 34))] hE hP⟩ rfl rfl hl.1 rfl (lv_room (Nat.le_of_ble_eq_true rfl)) dX12_hasTwice_106 ⟨Nat.zero_le _, Nat.zero_le _⟩) hS (fun H locs hP hS => ?_)
        refine lv_istore_n (lv' := [(2, .int v106_2538), (0, .ref (adr a0))]) hx hb dX12_hasTwice_109 rfl hl (by decide) rfl (fun ls hl => ?_)
        refine lv_aload_n hx hb dX12_hasTwice_110 rfl (lv_at hl 1 rfl) ?_
        refine lv_aload_n hx hb dX12_hasTwice_111 rfl (lv_at hl 1 rfl) ?_
        refine sm_get (ci := 12) (C := RX12) (T := TX12) (N := 54) (v := .ref (adr (a0 + 34))) hx hb hts hin12 hown hE hP ha0 rfl rfl 45 (by decide) (hts (.fieldLink RX12 126 "OrderMoverModel" "other" "[I") (by decide +kernel)) (fun _ h9 => h9) rfl dX12_hasTwice_112 ?_
        refine lv_iload_n hx hb dX12_hasTwice_115 rfl (lv_at hl 0 rfl) ?_
        obtain ⟨c116_2541, h⟩ := sm_ck h
        refine sm_iald hx hb hE hP (t12_45 ha0) c116_2541 dX12_hasTwice_116 ?_
        obtain ⟨v117_2542, hc117_2544, h⟩ := sm_bd h
        refine sm_ci (va_runV (As := [.int (M92_2527 (a0 + 34) (v106_2538).toNatClampNeg)]) (rest := []) ⟨hx, hb, hml, hown, hts⟩ (k_X12_inverse l D cA adr hJ a0 (M92_2527 (a0 + 34) (v106_2538).toNatClampNeg) ha0 M92_2527 v117_2542 hc117_2544) (cwV 1 hts gX12_hasTwice_X12_inverse rfl rfl rfl (by decide +kernel) ⟨Nat.le_of_ble_eq_true rfl, Nat.le_of_ble_eq_true rfl⟩) ⟨smPc_bl, smRv hE hP ha0 rfl (ci := 12) (q := (RX12, TX12, 54)) rfl, smPc_in [.ref (adr a0), .int (M92_2527 (a0 + 34) (v106_2538).toNatClampNeg)] hE hP⟩ rfl rfl hl.1 rfl (lv_room (Nat.le_of_ble_eq_true rfl)) dX12_hasTwice_117 ⟨Nat.zero_le _, Nat.zero_le _⟩) hS (fun H locs hP hS => ?_)
        refine lv_istore_n (lv' := [(3, .int v117_2542), (2, .int v106_2538), (0, .ref (adr a0))]) hx hb dX12_hasTwice_120 rfl hl (by decide) rfl (fun ls hl => ?_)
        refine lv_aload_n hx hb dX12_hasTwice_121 rfl (lv_at hl 2 rfl) ?_
        refine sm_get (ci := 12) (C := RX12) (T := TX12) (N := 54) (v := .ref (adr (a0 + 33))) hx hb hts hin12 hown hE hP ha0 rfl rfl 44 (by decide) (hts (.fieldLink RX12 123 "OrderMoverModel" "one" "[I") (by decide +kernel)) (fun _ h9 => h9) rfl dX12_hasTwice_122 ?_
        obtain ⟨v125_2545, hc125_2547, h⟩ := sm_bd h
        refine sm_ci (va_runS (As := [.ref (adr (a0 + 33))]) (rest := []) ⟨hx, hb, hml, hown, hts⟩ (k_X12_highOf l D cA adr hJ (a0 + 33) (t12_44 ha0) M92_2527 v125_2545 hc125_2547) (va_cwS 1 hts gX12_hasTwice_X12_highOf rfl rfl rfl (by decide +kernel) ⟨Nat.le_of_ble_eq_true rfl, Nat.le_of_ble_eq_true rfl⟩) ⟨smPc_bl, smPc_in [.ref (adr (a0 + 33))] hE hP⟩ rfl rfl hl.1 rfl (lv_room (Nat.le_of_ble_eq_true rfl)) dX12_hasTwice_125 ⟨Nat.zero_le _, Nat.zero_le _⟩) hS (fun H locs hP hS => ?_)
        refine lv_istore (lv' := [(4, .int v125_2545), (3, .int v117_2542), (2, .int v106_2538), (0, .ref (adr a0))]) hx hb dX12_hasTwice_128 hl (by decide) rfl (fun ls hl => ?_)
        refine sm_lp (b := fun rc q => m_X12_hasTwice_b130 a0 v106_2538 v117_2542 rc7_2519 rc52_2524 rc92_2528 rc q.1 q.2) (P := fun (q : Int32 × smM) H locs ls => smP D cA 2 adr q.2 H ∧ va_S (smA 2 adr) s.heap H locs ∧ lv_has ls 7 [(0, .ref (adr a0)), (2, .int v106_2538), (3, .int v117_2542), (4, .int q.1)]) (pc := 130) ?_ _ _ _ _ _ h ⟨hP, hS, lv_sub hl [3, 2, 1, 0] rfl⟩
        intro rc130_2550 ih130_2551 q H locs ls h hI
        obtain ⟨x4_130_2548, M130_2549⟩ := q
        obtain ⟨hP, hS, hl⟩ := hI
        have hP : smP D cA 2 adr M130_2549 H := hP
        have hl : lv_has ls 7 [(0, .ref (adr a0)), (2, .int v106_2538), (3, .int v117_2542), (4, .int x4_130_2548)] := hl
        have h : m_X12_hasTwice_b130 a0 v106_2538 v117_2542 rc7_2519 rc52_2524 rc92_2528 rc130_2550 x4_130_2548 M130_2549 = some _ := h
        unfold m_X12_hasTwice_b130 at h
        refine lv_iload hx hb dX12_hasTwice_130 (lv_at hl 3 rfl) ?_
        refine lv_iload_n hx hb dX12_hasTwice_132 rfl (lv_at hl 1 rfl) ?_
        refine lv_icmp_lt (tgt := 215) hx hb dX12_hasTwice_133 (by decide) (fun c133_2552 => ?_) (fun c133_2552 => ?_)
        · rw [if_pos c133_2552] at h
          refine lv_iconst (v := (0 : Int32)) hx hb dX12_hasTwice_215 (by decide) ?_
          refine lv_istore (lv' := [(4, .int (0 : Int32)), (0, .ref (adr a0)), (2, .int v106_2538), (3, .int v117_2542)]) hx hb dX12_hasTwice_216 hl (by decide) rfl (fun ls hl => ?_)
          refine sm_lp (b := fun rc q => m_X12_hasTwice_b218 a0 rc7_2519 rc52_2524 rc92_2528 rc130_2550 rc q.1 q.2) (P := fun (q : Int32 × smM) H locs ls => smP D cA 2 adr q.2 H ∧ va_S (smA 2 adr) s.heap H locs ∧ lv_has ls 7 [(0, .ref (adr a0)), (4, .int q.1)]) (pc := 218) ?_ _ _ _ _ _ h ⟨hP, hS, lv_sub hl [1, 0] rfl⟩
          intro rc218_2555 ih218_2556 q H locs ls h hI
          obtain ⟨x4_218_2553, M218_2554⟩ := q
          obtain ⟨hP, hS, hl⟩ := hI
          have hP : smP D cA 2 adr M218_2554 H := hP
          have hl : lv_has ls 7 [(0, .ref (adr a0)), (4, .int x4_218_2553)] := hl
          have h : m_X12_hasTwice_b218 a0 rc7_2519 rc52_2524 rc92_2528 rc130_2550 rc218_2555 x4_218_2553 M218_2554 = some _ := h
          unfold m_X12_hasTwice_b218 at h
          refine lv_iload hx hb dX12_hasTwice_218 (lv_at hl 1 rfl) ?_
          refine lv_bipush (v := (10 : Int32)) hx hb dX12_hasTwice_220 (by decide) ?_
          refine lv_icmp_ge (tgt := 263) hx hb dX12_hasTwice_222 (by decide) (fun c222_2557 => ?_) (fun c222_2557 => ?_)
          · rw [if_pos c222_2557] at h
            refine lv_goto (tgt := 92) hx hb dX12_hasTwice_263 (by decide) ?_
            exact ih92_2529 M218_2554 _ _ _ h ⟨hP, hS, lv_sub hl [0] rfl⟩
          · rw [if_neg c222_2557] at h
            refine lv_aload_n hx hb dX12_hasTwice_225 rfl (lv_at hl 0 rfl) ?_
            refine sm_get (ci := 12) (C := RX12) (T := TX12) (N := 54) (v := .ref (adr (a0 + 33))) hx hb hts hin12 hown hE hP ha0 rfl rfl 44 (by decide) (hts (.fieldLink RX12 123 "OrderMoverModel" "one" "[I") (by decide +kernel)) (fun _ h9 => h9) rfl dX12_hasTwice_226 ?_
            refine lv_iload hx hb dX12_hasTwice_229 (lv_at hl 1 rfl) ?_
            obtain ⟨c231_2558, h⟩ := sm_ck h
            refine sm_iald hx hb hE hP (t12_44 ha0) c231_2558 dX12_hasTwice_231 ?_
            refine lv_istore (lv' := [(5, .int (M218_2554 (a0 + 33) (x4_218_2553).toNatClampNeg)), (0, .ref (adr a0)), (4, .int x4_218_2553)]) hx hb dX12_hasTwice_232 hl (by decide) rfl (fun ls hl => ?_)
            refine lv_aload_n hx hb dX12_hasTwice_234 rfl (lv_at hl 1 rfl) ?_
            refine sm_get (ci := 12) (C := RX12) (T := TX12) (N := 54) (v := .ref (adr (a0 + 33))) hx hb hts hin12 hown hE hP ha0 rfl rfl 44 (by decide) (hts (.fieldLink RX12 123 "OrderMoverModel" "one" "[I") (by decide +kernel)) (fun _ h9 => h9) rfl dX12_hasTwice_235 ?_
            refine lv_iload hx hb dX12_hasTwice_238 (lv_at hl 2 rfl) ?_
            refine lv_aload_n hx hb dX12_hasTwice_240 rfl (lv_at hl 1 rfl) ?_
            refine sm_get (ci := 12) (C := RX12) (T := TX12) (N := 54) (v := .ref (adr (a0 + 34))) hx hb hts hin12 hown hE hP ha0 rfl rfl 45 (by decide) (hts (.fieldLink RX12 126 "OrderMoverModel" "other" "[I") (by decide +kernel)) (fun _ h9 => h9) rfl dX12_hasTwice_241 ?_
            refine lv_iload hx hb dX12_hasTwice_244 (lv_at hl 2 rfl) ?_
            obtain ⟨c246_2559, h⟩ := sm_ck h
            refine sm_iald hx hb hE hP (t12_45 ha0) c246_2559 dX12_hasTwice_246 ?_
            obtain ⟨c247_2560, h⟩ := sm_ck h
            refine sm_iast hx hb hE hJ hP hS (t12_44 ha0) c247_2560 dX12_hasTwice_247 (fun H locs hP hS => ?_)
            obtain ⟨M247_2561, hM, h⟩ := sm_lt h
            rw [← hM] at hP; clear hM
            refine lv_aload_n hx hb dX12_hasTwice_248 rfl (lv_at hl 1 rfl) ?_
            refine sm_get (ci := 12) (C := RX12) (T := TX12) (N := 54) (v := .ref (adr (a0 + 34))) hx hb hts hin12 hown hE hP ha0 rfl rfl 45 (by decide) (hts (.fieldLink RX12 126 "OrderMoverModel" "other" "[I") (by decide +kernel)) (fun _ h9 => h9) rfl dX12_hasTwice_249 ?_
            refine lv_iload hx hb dX12_hasTwice_252 (lv_at hl 2 rfl) ?_
            refine lv_iload hx hb dX12_hasTwice_254 (lv_at hl 0 rfl) ?_
            obtain ⟨c256_2562, h⟩ := sm_ck h
            refine sm_iast hx hb hE hJ hP hS (t12_45 ha0) c256_2562 dX12_hasTwice_256 (fun H locs hP hS => ?_)
            obtain ⟨M256_2563, hM, h⟩ := sm_lt h
            rw [← hM] at hP; clear hM
            refine lv_iinc (v := (x4_218_2553 + (1 : Int32))) (lv' := [(4, .int (x4_218_2553 + (1 : Int32))), (5, .int (M218_2554 (a0 + 33) (x4_218_2553).toNatClampNeg)), (0, .ref (adr a0))]) hx hb dX12_hasTwice_257 hl (k := 2) rfl (congrArg (fun z => x4_218_2553 + z) (by decide)) (by decide) rfl (fun ls hl => ?_)
            refine lv_goto (tgt := 218) hx hb dX12_hasTwice_260 (by decide) ?_
            exact ih218_2556 ((x4_218_2553 + (1 : Int32)), M256_2563) _ _ _ h ⟨hP, hS, lv_sub hl [2, 0] rfl⟩
        · rw [if_neg c133_2552] at h
          refine lv_aload_n hx hb dX12_hasTwice_136 rfl (lv_at hl 0 rfl) ?_
          refine sm_get (ci := 12) (C := RX12) (T := TX12) (N := 54) (v := .ref (adr (a0 + 33))) hx hb hts hin12 hown hE hP ha0 rfl rfl 44 (by decide) (hts (.fieldLink RX12 123 "OrderMoverModel" "one" "[I") (by decide +kernel)) (fun _ h9 => h9) rfl dX12_hasTwice_137 ?_
          refine lv_iload hx hb dX12_hasTwice_140 (lv_at hl 3 rfl) ?_
          obtain ⟨c142_2564, h⟩ := sm_ck h
          refine sm_iald hx hb hE hP (t12_44 ha0) c142_2564 dX12_hasTwice_142 ?_
          refine lv_iload_n hx hb dX12_hasTwice_143 rfl (lv_at hl 2 rfl) ?_
          refine lv_imul hx hb dX12_hasTwice_144 ?_
          refine lv_aload_n hx hb dX12_hasTwice_145 rfl (lv_at hl 0 rfl) ?_
          refine sm_get (ci := 12) (C := RX12) (T := TX12) (N := 54) (v := .int (M130_2549 a0 0)) hx hb hts hin12 hown hE hP ha0 rfl rfl 0 (by decide) (hts (.fieldLink RX12 7 "OrderMoverModel" "p" "I") (by decide +kernel)) (fun _ h9 => h9) rfl dX12_hasTwice_146 ?_
          obtain ⟨c149_2565, h⟩ := sm_ck h
          refine lv_irem hx hb dX12_hasTwice_149 c149_2565 ?_
          refine lv_istore (lv' := [(5, .int (((M130_2549 (a0 + 33) (x4_130_2548).toNatClampNeg) * v117_2542) - ((M130_2549 (a0 + 33) (x4_130_2548).toNatClampNeg) * v117_2542) / (M130_2549 a0 0) * (M130_2549 a0 0))), (0, .ref (adr a0)), (2, .int v106_2538), (3, .int v117_2542), (4, .int x4_130_2548)]) hx hb dX12_hasTwice_150 hl (by decide) rfl (fun ls hl => ?_)
          refine lv_iconst (v := (0 : Int32)) hx hb dX12_hasTwice_152 (by decide) ?_
          refine lv_istore (lv' := [(6, .int (0 : Int32)), (5, .int (((M130_2549 (a0 + 33) (x4_130_2548).toNatClampNeg) * v117_2542) - ((M130_2549 (a0 + 33) (x4_130_2548).toNatClampNeg) * v117_2542) / (M130_2549 a0 0) * (M130_2549 a0 0))), (0, .ref (adr a0)), (2, .int v106_2538), (3, .int v117_2542), (4, .int x4_130_2548)]) hx hb dX12_hasTwice_153 hl (by decide) rfl (fun ls hl => ?_)
          refine sm_lp (b := fun rc q => m_X12_hasTwice_b155 a0 v106_2538 v117_2542 x4_130_2548 (((M130_2549 (a0 + 33) (x4_130_2548).toNatClampNeg) * v117_2542) - ((M130_2549 (a0 + 33) (x4_130_2548).toNatClampNeg) * v117_2542) / (M130_2549 a0 0) * (M130_2549 a0 0)) rc7_2519 rc52_2524 rc92_2528 rc130_2550 rc q.1 q.2) (P := fun (q : Int32 × smM) H locs ls => smP D cA 2 adr q.2 H ∧ va_S (smA 2 adr) s.heap H locs ∧ lv_has ls 7 [(0, .ref (adr a0)), (2, .int v106_2538), (3, .int v117_2542), (4, .int x4_130_2548), (5, .int (((M130_2549 (a0 + 33) (x4_130_2548).toNatClampNeg) * v117_2542) - ((M130_2549 (a0 + 33) (x4_130_2548).toNatClampNeg) * v117_2542) / (M130_2549 a0 0) * (M130_2549 a0 0))), (6, .int q.1)]) (pc := 155) ?_ _ _ _ _ _ h ⟨hP, hS, lv_sub hl [2, 3, 4, 5, 1, 0] rfl⟩
          intro rc155_2568 ih155_2569 q H locs ls h hI
          obtain ⟨x6_155_2566, M155_2567⟩ := q
          obtain ⟨hP, hS, hl⟩ := hI
          have hP : smP D cA 2 adr M155_2567 H := hP
          have hl : lv_has ls 7 [(0, .ref (adr a0)), (2, .int v106_2538), (3, .int v117_2542), (4, .int x4_130_2548), (5, .int (((M130_2549 (a0 + 33) (x4_130_2548).toNatClampNeg) * v117_2542) - ((M130_2549 (a0 + 33) (x4_130_2548).toNatClampNeg) * v117_2542) / (M130_2549 a0 0) * (M130_2549 a0 0))), (6, .int x6_155_2566)] := hl
          have h : m_X12_hasTwice_b155 a0 v106_2538 v117_2542 x4_130_2548 (((M130_2549 (a0 + 33) (x4_130_2548).toNatClampNeg) * v117_2542) - ((M130_2549 (a0 + 33) (x4_130_2548).toNatClampNeg) * v117_2542) / (M130_2549 a0 0) * (M130_2549 a0 0)) rc7_2519 rc52_2524 rc92_2528 rc130_2550 rc155_2568 x6_155_2566 M155_2567 = some _ := h
          unfold m_X12_hasTwice_b155 at h
          refine lv_iload hx hb dX12_hasTwice_155 (lv_at hl 5 rfl) ?_
          refine lv_iload_n hx hb dX12_hasTwice_157 rfl (lv_at hl 1 rfl) ?_
          refine lv_icmp_gt (tgt := 209) hx hb dX12_hasTwice_158 (by decide) (fun c158_2570 => ?_) (fun c158_2570 => ?_)
          · rw [if_pos c158_2570] at h
            refine lv_iinc (v := (x4_130_2548 + (-1 : Int32))) (lv' := [(4, .int (x4_130_2548 + (-1 : Int32))), (0, .ref (adr a0)), (2, .int v106_2538), (3, .int v117_2542), (5, .int (((M130_2549 (a0 + 33) (x4_130_2548).toNatClampNeg) * v117_2542) - ((M130_2549 (a0 + 33) (x4_130_2548).toNatClampNeg) * v117_2542) / (M130_2549 a0 0) * (M130_2549 a0 0))), (6, .int x6_155_2566)]) hx hb dX12_hasTwice_209 hl (k := 3) rfl (congrArg (fun z => x4_130_2548 + z) (by decide)) (by decide) rfl (fun ls hl => ?_)
            refine lv_goto (tgt := 130) hx hb dX12_hasTwice_212 (by decide) ?_
            exact ih130_2551 ((x4_130_2548 + (-1 : Int32)), M155_2567) _ _ _ h ⟨hP, hS, lv_sub hl [1, 2, 3, 0] rfl⟩
          · rw [if_neg c158_2570] at h
            refine lv_aload_n hx hb dX12_hasTwice_161 rfl (lv_at hl 0 rfl) ?_
            refine sm_get (ci := 12) (C := RX12) (T := TX12) (N := 54) (v := .ref (adr (a0 + 33))) hx hb hts hin12 hown hE hP ha0 rfl rfl 44 (by decide) (hts (.fieldLink RX12 123 "OrderMoverModel" "one" "[I") (by decide +kernel)) (fun _ h9 => h9) rfl dX12_hasTwice_162 ?_
            refine lv_iload hx hb dX12_hasTwice_165 (lv_at hl 3 rfl) ?_
            refine lv_iload_n hx hb dX12_hasTwice_167 rfl (lv_at hl 1 rfl) ?_
            refine lv_isub hx hb dX12_hasTwice_168 ?_
            refine lv_iload hx hb dX12_hasTwice_169 (lv_at hl 5 rfl) ?_
            refine lv_iadd hx hb dX12_hasTwice_171 ?_
            refine lv_aload_n hx hb dX12_hasTwice_172 rfl (lv_at hl 0 rfl) ?_
            refine lv_aload_n hx hb dX12_hasTwice_173 rfl (lv_at hl 0 rfl) ?_
            refine sm_get (ci := 12) (C := RX12) (T := TX12) (N := 54) (v := .ref (adr (a0 + 33))) hx hb hts hin12 hown hE hP ha0 rfl rfl 44 (by decide) (hts (.fieldLink RX12 123 "OrderMoverModel" "one" "[I") (by decide +kernel)) (fun _ h9 => h9) rfl dX12_hasTwice_174 ?_
            refine lv_iload hx hb dX12_hasTwice_177 (lv_at hl 3 rfl) ?_
            refine lv_iload_n hx hb dX12_hasTwice_179 rfl (lv_at hl 1 rfl) ?_
            refine lv_isub hx hb dX12_hasTwice_180 ?_
            refine lv_iload hx hb dX12_hasTwice_181 (lv_at hl 5 rfl) ?_
            refine lv_iadd hx hb dX12_hasTwice_183 ?_
            obtain ⟨c184_2571, h⟩ := sm_ck h
            refine sm_iald hx hb hE hP (t12_44 ha0) c184_2571 dX12_hasTwice_184 ?_
            refine lv_i2l hx hb dX12_hasTwice_185 rfl ?_
            refine lv_iload hx hb dX12_hasTwice_186 (lv_at hl 4 rfl) ?_
            refine lv_i2l hx hb dX12_hasTwice_188 rfl ?_
            refine lv_aload_n hx hb dX12_hasTwice_189 rfl (lv_at hl 0 rfl) ?_
            refine sm_get (ci := 12) (C := RX12) (T := TX12) (N := 54) (v := .ref (adr (a0 + 34))) hx hb hts hin12 hown hE hP ha0 rfl rfl 45 (by decide) (hts (.fieldLink RX12 126 "OrderMoverModel" "other" "[I") (by decide +kernel)) (fun _ h9 => h9) rfl dX12_hasTwice_190 ?_
            refine lv_iload hx hb dX12_hasTwice_193 (lv_at hl 5 rfl) ?_
            obtain ⟨c195_2572, h⟩ := sm_ck h
            refine sm_iald hx hb hE hP (t12_45 ha0) c195_2572 dX12_hasTwice_195 ?_
            refine lv_i2l hx hb dX12_hasTwice_196 rfl ?_
            refine lv_lmul hx hb dX12_hasTwice_197 ?_
            refine lv_lsub hx hb dX12_hasTwice_198 ?_
            obtain ⟨v199_2573, hc199_2575, h⟩ := sm_bd h
            refine sm_ci (va_runV (As := [.long (((M155_2567 (a0 + 33) (((x4_130_2548 - v106_2538) + x6_155_2566)).toNatClampNeg)).toInt64 - (((((M130_2549 (a0 + 33) (x4_130_2548).toNatClampNeg) * v117_2542) - ((M130_2549 (a0 + 33) (x4_130_2548).toNatClampNeg) * v117_2542) / (M130_2549 a0 0) * (M130_2549 a0 0))).toInt64 * ((M155_2567 (a0 + 34) (x6_155_2566).toNatClampNeg)).toInt64))]) (rest := [.int ((x4_130_2548 - v106_2538) + x6_155_2566), .ref (adr (a0 + 33))]) ⟨hx, hb, hml, hown, hts⟩ (k_X12_mod l D cA adr hJ a0 (((M155_2567 (a0 + 33) (((x4_130_2548 - v106_2538) + x6_155_2566)).toNatClampNeg)).toInt64 - (((((M130_2549 (a0 + 33) (x4_130_2548).toNatClampNeg) * v117_2542) - ((M130_2549 (a0 + 33) (x4_130_2548).toNatClampNeg) * v117_2542) / (M130_2549 a0 0) * (M130_2549 a0 0))).toInt64 * ((M155_2567 (a0 + 34) (x6_155_2566).toNatClampNeg)).toInt64)) ha0 M155_2567 v199_2573 hc199_2575) (cwV 1 hts gX12_hasTwice_X12_mod rfl rfl rfl (by decide +kernel) ⟨Nat.le_of_ble_eq_true rfl, Nat.le_of_ble_eq_true rfl⟩) ⟨smPc_bl, smRv hE hP ha0 rfl (ci := 12) (q := (RX12, TX12, 54)) rfl, smPc_in [.ref (adr a0), .long (((M155_2567 (a0 + 33) (((x4_130_2548 - v106_2538) + x6_155_2566)).toNatClampNeg)).toInt64 - (((((M130_2549 (a0 + 33) (x4_130_2548).toNatClampNeg) * v117_2542) - ((M130_2549 (a0 + 33) (x4_130_2548).toNatClampNeg) * v117_2542) / (M130_2549 a0 0) * (M130_2549 a0 0))).toInt64 * ((M155_2567 (a0 + 34) (x6_155_2566).toNatClampNeg)).toInt64))] hE hP⟩ rfl rfl hl.1 rfl (lv_room (Nat.le_of_ble_eq_true rfl)) dX12_hasTwice_199 ⟨Nat.zero_le _, Nat.zero_le _⟩) hS (fun H locs hP hS => ?_)
            obtain ⟨c202_2576, h⟩ := sm_ck h
            refine sm_iast hx hb hE hJ hP hS (t12_44 ha0) c202_2576 dX12_hasTwice_202 (fun H locs hP hS => ?_)
            obtain ⟨M202_2577, hM, h⟩ := sm_lt h
            rw [← hM] at hP; clear hM
            refine lv_iinc (v := (x6_155_2566 + (1 : Int32))) (lv' := [(6, .int (x6_155_2566 + (1 : Int32))), (0, .ref (adr a0)), (2, .int v106_2538), (3, .int v117_2542), (4, .int x4_130_2548), (5, .int (((M130_2549 (a0 + 33) (x4_130_2548).toNatClampNeg) * v117_2542) - ((M130_2549 (a0 + 33) (x4_130_2548).toNatClampNeg) * v117_2542) / (M130_2549 a0 0) * (M130_2549 a0 0)))]) hx hb dX12_hasTwice_203 hl (k := 5) rfl (congrArg (fun z => x6_155_2566 + z) (by decide)) (by decide) rfl (fun ls hl => ?_)
            refine lv_goto (tgt := 155) hx hb dX12_hasTwice_206 (by decide) ?_
            exact ih155_2569 ((x6_155_2566 + (1 : Int32)), M202_2577) _ _ _ h ⟨hP, hS, lv_sub hl [1, 2, 3, 4, 5, 0] rfl⟩
    · rw [if_neg c57_2526] at h
      refine lv_aload_n hx hb dX12_hasTwice_60 rfl (lv_at hl 0 rfl) ?_
      refine sm_get (ci := 12) (C := RX12) (T := TX12) (N := 54) (v := .ref (adr (a0 + 34))) hx hb hts hin12 hown hE hP ha0 rfl rfl 45 (by decide) (hts (.fieldLink RX12 126 "OrderMoverModel" "other" "[I") (by decide +kernel)) (fun _ h9 => h9) rfl dX12_hasTwice_61 ?_
      refine lv_iload_n hx hb dX12_hasTwice_64 rfl (lv_at hl 1 rfl) ?_
      refine lv_iconst (v := (1 : Int32)) hx hb dX12_hasTwice_65 (by decide) ?_
      refine lv_isub hx hb dX12_hasTwice_66 ?_
      refine lv_iload_n hx hb dX12_hasTwice_67 rfl (lv_at hl 1 rfl) ?_
      refine lv_aload_n hx hb dX12_hasTwice_68 rfl (lv_at hl 0 rfl) ?_
      refine sm_get (ci := 12) (C := RX12) (T := TX12) (N := 54) (v := .int (M52_2523 a0 0)) hx hb hts hin12 hown hE hP ha0 rfl rfl 0 (by decide) (hts (.fieldLink RX12 7 "OrderMoverModel" "p" "I") (by decide +kernel)) (fun _ h9 => h9) rfl dX12_hasTwice_69 ?_
      obtain ⟨c72_2578, h⟩ := sm_ck h
      refine lv_irem hx hb dX12_hasTwice_72 c72_2578 ?_
      refine lv_aload_n hx hb dX12_hasTwice_73 rfl (lv_at hl 0 rfl) ?_
      refine sm_get (ci := 12) (C := RX12) (T := TX12) (N := 54) (v := .ref (adr (a0 + 33))) hx hb hts hin12 hown hE hP ha0 rfl rfl 44 (by decide) (hts (.fieldLink RX12 123 "OrderMoverModel" "one" "[I") (by decide +kernel)) (fun _ h9 => h9) rfl dX12_hasTwice_74 ?_
      refine lv_iload_n hx hb dX12_hasTwice_77 rfl (lv_at hl 1 rfl) ?_
      obtain ⟨c78_2579, h⟩ := sm_ck h
      refine sm_iald hx hb hE hP (t12_44 ha0) c78_2579 dX12_hasTwice_78 ?_
      refine lv_imul hx hb dX12_hasTwice_79 ?_
      refine lv_aload_n hx hb dX12_hasTwice_80 rfl (lv_at hl 0 rfl) ?_
      refine sm_get (ci := 12) (C := RX12) (T := TX12) (N := 54) (v := .int (M52_2523 a0 0)) hx hb hts hin12 hown hE hP ha0 rfl rfl 0 (by decide) (hts (.fieldLink RX12 7 "OrderMoverModel" "p" "I") (by decide +kernel)) (fun _ h9 => h9) rfl dX12_hasTwice_81 ?_
      obtain ⟨c84_2580, h⟩ := sm_ck h
      refine lv_irem hx hb dX12_hasTwice_84 c84_2580 ?_
      obtain ⟨c85_2581, h⟩ := sm_ck h
      refine sm_iast hx hb hE hJ hP hS (t12_45 ha0) c85_2581 dX12_hasTwice_85 (fun H locs hP hS => ?_)
      obtain ⟨M85_2582, hM, h⟩ := sm_lt h
      rw [← hM] at hP; clear hM
      refine lv_iinc (v := (x2_52_2522 + (1 : Int32))) (lv' := [(2, .int (x2_52_2522 + (1 : Int32))), (0, .ref (adr a0))]) hx hb dX12_hasTwice_86 hl (k := 1) rfl (congrArg (fun z => x2_52_2522 + z) (by decide)) (by decide) rfl (fun ls hl => ?_)
      refine lv_goto (tgt := 52) hx hb dX12_hasTwice_89 (by decide) ?_
      exact ih52_2525 ((x2_52_2522 + (1 : Int32)), M85_2582) _ _ _ h ⟨hP, hS, lv_sub hl [1, 0] rfl⟩
  · rw [if_neg c10_2521] at h
    refine lv_aload_n hx hb dX12_hasTwice_13 rfl (lv_at hl 0 rfl) ?_
    refine sm_get (ci := 12) (C := RX12) (T := TX12) (N := 54) (v := .ref (adr (a0 + 33))) hx hb hts hin12 hown hE hP ha0 rfl rfl 44 (by decide) (hts (.fieldLink RX12 123 "OrderMoverModel" "one" "[I") (by decide +kernel)) (fun _ h9 => h9) rfl dX12_hasTwice_14 ?_
    refine lv_iload_n hx hb dX12_hasTwice_17 rfl (lv_at hl 1 rfl) ?_
    refine lv_iload_n hx hb dX12_hasTwice_18 rfl (lv_at hl 1 rfl) ?_
    refine lv_aload_n hx hb dX12_hasTwice_19 rfl (lv_at hl 0 rfl) ?_
    refine sm_get (ci := 12) (C := RX12) (T := TX12) (N := 54) (v := .int (M7_2518 a0 43)) hx hb hts hin12 hown hE hP ha0 rfl rfl 43 (by decide) (hts (.fieldLink RX12 275 "OrderMoverModel" "degree" "I") (by decide +kernel)) (fun _ h9 => h9) rfl dX12_hasTwice_20 ?_
    refine sm_jn (x := (v1, M1)) (T := fun (q : Int32) => m_X12_hasTwice_j36 a0 x2_7_2517 x2_7_2517 (a0 + 33) M7_2518 rc7_2519 q) (P := fun (q : Int32) H locs ls => smP D cA 2 adr M7_2518 H ∧ va_S (smA 2 adr) s.heap H locs ∧ lv_has ls 7 [(0, .ref (adr a0)), (2, .int x2_7_2517)]) (st := fun (q : Int32) => [.int q, .int x2_7_2517, .ref (adr (a0 + 33))]) (pc := 36) ?_ (fun J36_2584 => ?_)
    · intro q H locs ls h hI
      obtain ⟨s0_36_2583, hq⟩ : ∃ y, y = q := ⟨_, rfl⟩; subst hq
      obtain ⟨hP, hS, hl⟩ := hI
      have hP : smP D cA 2 adr M7_2518 H := hP
      have hl : lv_has ls 7 [(0, .ref (adr a0)), (2, .int x2_7_2517)] := hl
      have h : m_X12_hasTwice_j36 a0 x2_7_2517 x2_7_2517 (a0 + 33) M7_2518 rc7_2519 s0_36_2583 = some _ := h
      unfold m_X12_hasTwice_j36 at h
      refine W.eq (g2 := F0 m 36 ls [.int s0_36_2583, .int x2_7_2517, .ref (adr (a0 + 33))]) rfl ?_
      obtain ⟨c36_2585, h⟩ := sm_ck h
      refine sm_iast hx hb hE hJ hP hS (t12_44 ha0) c36_2585 dX12_hasTwice_36 (fun H locs hP hS => ?_)
      obtain ⟨M36_2586, hM, h⟩ := sm_lt h
      rw [← hM] at hP; clear hM
      refine lv_aload_n hx hb dX12_hasTwice_37 rfl (lv_at hl 0 rfl) ?_
      refine sm_get (ci := 12) (C := RX12) (T := TX12) (N := 54) (v := .ref (adr (a0 + 34))) hx hb hts hin12 hown hE hP ha0 rfl rfl 45 (by decide) (hts (.fieldLink RX12 126 "OrderMoverModel" "other" "[I") (by decide +kernel)) (fun _ h9 => h9) rfl dX12_hasTwice_38 ?_
      refine lv_iload_n hx hb dX12_hasTwice_41 rfl (lv_at hl 1 rfl) ?_
      refine lv_iconst (v := (0 : Int32)) hx hb dX12_hasTwice_42 (by decide) ?_
      obtain ⟨c43_2587, h⟩ := sm_ck h
      refine sm_iast hx hb hE hJ hP hS (t12_45 ha0) c43_2587 dX12_hasTwice_43 (fun H locs hP hS => ?_)
      obtain ⟨M43_2588, hM, h⟩ := sm_lt h
      rw [← hM] at hP; clear hM
      refine lv_iinc (v := (x2_7_2517 + (1 : Int32))) (lv' := [(2, .int (x2_7_2517 + (1 : Int32))), (0, .ref (adr a0))]) hx hb dX12_hasTwice_44 hl (k := 1) rfl (congrArg (fun z => x2_7_2517 + z) (by decide)) (by decide) rfl (fun ls hl => ?_)
      refine lv_goto (tgt := 7) hx hb dX12_hasTwice_47 (by decide) ?_
      exact ih7_2520 ((x2_7_2517 + (1 : Int32)), M43_2588) _ _ _ h ⟨hP, hS, lv_sub hl [1, 0] rfl⟩
    refine lv_icmp_gt (tgt := 35) hx hb dX12_hasTwice_23 (by decide) (fun c23_2589 => ?_) (fun c23_2589 => ?_)
    · rw [if_pos c23_2589] at h
      refine lv_iconst (v := (0 : Int32)) hx hb dX12_hasTwice_35 (by decide) ?_
      exact J36_2584 (0 : Int32) _ _ _ h ⟨hP, hS, lv_sub hl [0, 1] rfl⟩
    · rw [if_neg c23_2589] at h
      refine lv_aload_n hx hb dX12_hasTwice_26 rfl (lv_at hl 0 rfl) ?_
      refine sm_get (ci := 12) (C := RX12) (T := TX12) (N := 54) (v := .ref (adr (a0 + 32))) hx hb hts hin12 hown hE hP ha0 rfl rfl 42 (by decide) (hts (.fieldLink RX12 120 "OrderMoverModel" "least" "[I") (by decide +kernel)) (fun _ h9 => h9) rfl dX12_hasTwice_27 ?_
      refine lv_iload_n hx hb dX12_hasTwice_30 rfl (lv_at hl 1 rfl) ?_
      obtain ⟨c31_2590, h⟩ := sm_ck h
      refine sm_iald hx hb hE hP (t12_42 ha0) c31_2590 dX12_hasTwice_31 ?_
      refine lv_goto (tgt := 36) hx hb dX12_hasTwice_32 (by decide) ?_
      exact J36_2584 (M7_2518 (a0 + 32) (x2_7_2517).toNatClampNeg) _ _ _ h ⟨hP, hS, lv_sub hl [0, 1] rfl⟩
set_option maxHeartbeats 4000000 in
set_option maxRecDepth 100000 in
theorem k_X12_valueOf (l : Launch) (D : va_G) (cA : Nat → ClassId) (adr : Nat → Nat) (hJ : smJ 2 adr) (a0 : Nat) (x1 : Int32) (x2 : Int32) (x3 : Int32) (ha0 : smT 2 a0 12) (M : smM) (v1 : Int32) (h : m_X12_valueOf a0 x1 x2 x3 M = some v1) : Met l yX12_valueOf wsX12_valueOf ({ frames := 0, cells := 0, slots := 0, locals := 0 }) (smPc D cA 2 adr M [.ref (adr a0), .int x1, .int x2, .int x3]) (smQi D cA 2 adr M v1) 0 0 (smA 2 adr) := by
  refine Met.ofW (cc := cX12_valueOf) (maxL := 11) (ret := (some .int)) (by decide) rfl ?_
  intro p e s m args below meth c s₁ B hml hv
  obtain ⟨rfl, hE, hP⟩ := hv
  have hx := B.exec
  have hb := B.bytes
  have hr := B.returns
  have hts := atoms_spec (ws := wsX12_valueOf) B.pre
  have hown : s.vm.findClass RX12 = some m.cls := findClass_of_methodNamed B.named
  have hlocks := B.notSynchronized
  have hS : va_S (smA 2 adr) s.heap s.heap [] := va_S.rf
  have hP : smP D cA 2 adr M s.heap := hP
  have hl := lv_entry ([.ref (adr a0), .int x1, .int x2, .int x3]) (n := 11) (Nat.le_of_ble_eq_true rfl)
  rw [lg_entry_eq]
  generalize (lg_sl ([.ref (adr a0), .int x1, .int x2, .int x3]) ++ List.replicate (11 - (lg_sl ([.ref (adr a0), .int x1, .int x2, .int x3])).length) Slot.unset).toArray = ls at hl ⊢
  have hl : lv_has ls 11 [(0, .ref (adr a0)), (1, .int x1), (2, .int x2), (3, .int x3)] := hl
  unfold m_X12_valueOf at h
  have hin12 : ∀ w ∈ u_ws RX12 TX12 54, w ∈ wsX12_valueOf := by decide +kernel
  refine lv_iload_n hx hb dX12_valueOf_0 rfl (lv_at hl 1 rfl) ?_
  refine sm_jn (x := v1) (T := fun (q : Int32) => m_X12_valueOf_j15 a0 x1 x2 x3 M q) (P := fun (q : Int32) H locs ls => smP D cA 2 adr M H ∧ va_S (smA 2 adr) s.heap H locs ∧ lv_has ls 11 [(0, .ref (adr a0)), (1, .int x1), (2, .int x2), (3, .int x3)]) (st := fun (q : Int32) => [.int q]) (pc := 15) ?_ (fun J15_2592 => ?_)
  · intro q H locs ls h hI
    obtain ⟨s0_15_2591, hq⟩ : ∃ y, y = q := ⟨_, rfl⟩; subst hq
    obtain ⟨hP, hS, hl⟩ := hI
    have hP : smP D cA 2 adr M H := hP
    have hl : lv_has ls 11 [(0, .ref (adr a0)), (1, .int x1), (2, .int x2), (3, .int x3)] := hl
    have h : m_X12_valueOf_j15 a0 x1 x2 x3 M s0_15_2591 = some _ := h
    unfold m_X12_valueOf_j15 at h
    refine W.eq (g2 := F0 m 15 ls [.int s0_15_2591]) rfl ?_
    refine lv_istore (lv' := [(4, .int s0_15_2591), (0, .ref (adr a0)), (1, .int x1), (2, .int x2), (3, .int x3)]) hx hb dX12_valueOf_15 hl (by decide) rfl (fun ls hl => ?_)
    refine lv_iload_n hx hb dX12_valueOf_17 rfl (lv_at hl 2 rfl) ?_
    refine sm_jn (x := v1) (T := fun (q : Int32) => m_X12_valueOf_j26 a0 x1 x2 x3 s0_15_2591 M q) (P := fun (q : Int32) H locs ls => smP D cA 2 adr M H ∧ va_S (smA 2 adr) s.heap H locs ∧ lv_has ls 11 [(0, .ref (adr a0)), (1, .int x1), (2, .int x2), (3, .int x3), (4, .int s0_15_2591)]) (st := fun (q : Int32) => [.int q]) (pc := 26) ?_ (fun J26_2594 => ?_)
    · intro q H locs ls h hI
      obtain ⟨s0_26_2593, hq⟩ : ∃ y, y = q := ⟨_, rfl⟩; subst hq
      obtain ⟨hP, hS, hl⟩ := hI
      have hP : smP D cA 2 adr M H := hP
      have hl : lv_has ls 11 [(0, .ref (adr a0)), (1, .int x1), (2, .int x2), (3, .int x3), (4, .int s0_15_2591)] := hl
      have h : m_X12_valueOf_j26 a0 x1 x2 x3 s0_15_2591 M s0_26_2593 = some _ := h
      unfold m_X12_valueOf_j26 at h
      refine W.eq (g2 := F0 m 26 ls [.int s0_26_2593]) rfl ?_
      refine lv_istore (lv' := [(5, .int s0_26_2593), (0, .ref (adr a0)), (1, .int x1), (2, .int x2), (3, .int x3), (4, .int s0_15_2591)]) hx hb dX12_valueOf_26 hl (by decide) rfl (fun ls hl => ?_)
      refine lv_iconst (v := (1 : Int32)) hx hb dX12_valueOf_28 (by decide) ?_
      refine lv_istore (lv' := [(6, .int (1 : Int32)), (5, .int s0_26_2593), (0, .ref (adr a0)), (1, .int x1), (2, .int x2), (3, .int x3), (4, .int s0_15_2591)]) hx hb dX12_valueOf_29 hl (by decide) rfl (fun ls hl => ?_)
      refine lv_iconst (v := (0 : Int32)) hx hb dX12_valueOf_31 (by decide) ?_
      refine lv_istore (lv' := [(7, .int (0 : Int32)), (6, .int (1 : Int32)), (5, .int s0_26_2593), (0, .ref (adr a0)), (1, .int x1), (2, .int x2), (3, .int x3), (4, .int s0_15_2591)]) hx hb dX12_valueOf_32 hl (by decide) rfl (fun ls hl => ?_)
      refine sm_lp (b := fun rc q => m_X12_valueOf_b34 a0 x1 x2 x3 s0_15_2591 s0_26_2593 M rc q.1 q.2) (P := fun (q : Int32 × Int32) H locs ls => smP D cA 2 adr M H ∧ va_S (smA 2 adr) s.heap H locs ∧ lv_has ls 11 [(0, .ref (adr a0)), (1, .int x1), (2, .int x2), (3, .int x3), (4, .int s0_15_2591), (5, .int s0_26_2593), (6, .int q.1), (7, .int q.2)]) (pc := 34) ?_ _ _ _ _ _ h ⟨hP, hS, lv_sub hl [3, 4, 5, 6, 7, 2, 1, 0] rfl⟩
      intro rc34_2597 ih34_2598 q H locs ls h hI
      obtain ⟨x6_34_2595, x7_34_2596⟩ := q
      obtain ⟨hP, hS, hl⟩ := hI
      have hP : smP D cA 2 adr M H := hP
      have hl : lv_has ls 11 [(0, .ref (adr a0)), (1, .int x1), (2, .int x2), (3, .int x3), (4, .int s0_15_2591), (5, .int s0_26_2593), (6, .int x6_34_2595), (7, .int x7_34_2596)] := hl
      have h : m_X12_valueOf_b34 a0 x1 x2 x3 s0_15_2591 s0_26_2593 M rc34_2597 x6_34_2595 x7_34_2596 = some _ := h
      unfold m_X12_valueOf_b34 at h
      refine lv_iload hx hb dX12_valueOf_34 (lv_at hl 7 rfl) ?_
      refine lv_iload hx hb dX12_valueOf_36 (lv_at hl 4 rfl) ?_
      refine lv_icmp_ge (tgt := 59) hx hb dX12_valueOf_38 (by decide) (fun c38_2599 => ?_) (fun c38_2599 => ?_)
      · rw [if_pos c38_2599] at h
        refine lv_iconst (v := (1 : Int32)) hx hb dX12_valueOf_59 (by decide) ?_
        refine lv_istore (lv' := [(7, .int (1 : Int32)), (0, .ref (adr a0)), (1, .int x1), (2, .int x2), (3, .int x3), (4, .int s0_15_2591), (5, .int s0_26_2593), (6, .int x6_34_2595)]) hx hb dX12_valueOf_60 hl (by decide) rfl (fun ls hl => ?_)
        refine lv_iconst (v := (0 : Int32)) hx hb dX12_valueOf_62 (by decide) ?_
        refine lv_istore (lv' := [(8, .int (0 : Int32)), (7, .int (1 : Int32)), (0, .ref (adr a0)), (1, .int x1), (2, .int x2), (3, .int x3), (4, .int s0_15_2591), (5, .int s0_26_2593), (6, .int x6_34_2595)]) hx hb dX12_valueOf_63 hl (by decide) rfl (fun ls hl => ?_)
        refine sm_lp (b := fun rc q => m_X12_valueOf_b65 a0 x1 x2 x3 s0_15_2591 M rc34_2597 rc q.1 q.2.1 q.2.2) (P := fun (q : Int32 × Int32 × Int32) H locs ls => smP D cA 2 adr M H ∧ va_S (smA 2 adr) s.heap H locs ∧ lv_has ls 11 [(0, .ref (adr a0)), (1, .int x1), (2, .int x2), (3, .int x3), (4, .int s0_15_2591), (6, .int q.1), (7, .int q.2.1), (8, .int q.2.2)]) (pc := 65) ?_ _ _ _ _ _ h ⟨hP, hS, lv_sub hl [2, 3, 4, 5, 6, 8, 1, 0] rfl⟩
        intro rc65_2603 ih65_2604 q H locs ls h hI
        obtain ⟨x6_65_2600, x7_65_2601, x8_65_2602⟩ := q
        obtain ⟨hP, hS, hl⟩ := hI
        have hP : smP D cA 2 adr M H := hP
        have hl : lv_has ls 11 [(0, .ref (adr a0)), (1, .int x1), (2, .int x2), (3, .int x3), (4, .int s0_15_2591), (6, .int x6_65_2600), (7, .int x7_65_2601), (8, .int x8_65_2602)] := hl
        have h : m_X12_valueOf_b65 a0 x1 x2 x3 s0_15_2591 M rc34_2597 rc65_2603 x6_65_2600 x7_65_2601 x8_65_2602 = some _ := h
        unfold m_X12_valueOf_b65 at h
        refine lv_iload hx hb dX12_valueOf_65 (lv_at hl 7 rfl) ?_
        refine lv_iload hx hb dX12_valueOf_67 (lv_at hl 4 rfl) ?_
        refine lv_icmp_ge (tgt := 153) hx hb dX12_valueOf_69 (by decide) (fun c69_2605 => ?_) (fun c69_2605 => ?_)
        · rw [if_pos c69_2605] at h
          refine lv_iload hx hb dX12_valueOf_153 (lv_at hl 5 rfl) ?_
          cases h
          exact sm_iret hx hb hr hlocks hP hS dX12_valueOf_155
        · rw [if_neg c69_2605] at h
          refine lv_iload hx hb dX12_valueOf_72 (lv_at hl 6 rfl) ?_
          refine lv_istore (lv' := [(9, .int x7_65_2601), (0, .ref (adr a0)), (1, .int x1), (2, .int x2), (3, .int x3), (4, .int s0_15_2591), (6, .int x6_65_2600), (7, .int x7_65_2601), (8, .int x8_65_2602)]) hx hb dX12_valueOf_74 hl (by decide) rfl (fun ls hl => ?_)
          refine lv_iconst (v := (0 : Int32)) hx hb dX12_valueOf_76 (by decide) ?_
          refine lv_istore (lv' := [(10, .int (0 : Int32)), (9, .int x7_65_2601), (0, .ref (adr a0)), (1, .int x1), (2, .int x2), (3, .int x3), (4, .int s0_15_2591), (6, .int x6_65_2600), (7, .int x7_65_2601), (8, .int x8_65_2602)]) hx hb dX12_valueOf_77 hl (by decide) rfl (fun ls hl => ?_)
          refine sm_lp (b := fun rc q => m_X12_valueOf_b79 a0 x1 x2 x3 s0_15_2591 x7_65_2601 x8_65_2602 M rc34_2597 rc65_2603 rc q.1 q.2.1 q.2.2) (P := fun (q : Int32 × Int32 × Int32) H locs ls => smP D cA 2 adr M H ∧ va_S (smA 2 adr) s.heap H locs ∧ lv_has ls 11 [(0, .ref (adr a0)), (1, .int x1), (2, .int x2), (3, .int x3), (4, .int s0_15_2591), (6, .int q.1), (7, .int x7_65_2601), (8, .int x8_65_2602), (9, .int q.2.1), (10, .int q.2.2)]) (pc := 79) ?_ _ _ _ _ _ h ⟨hP, hS, lv_sub hl [2, 3, 4, 5, 6, 7, 8, 9, 1, 0] rfl⟩
          intro rc79_2609 ih79_2610 q H locs ls h hI
          obtain ⟨x6_79_2606, x9_79_2607, x10_79_2608⟩ := q
          obtain ⟨hP, hS, hl⟩ := hI
          have hP : smP D cA 2 adr M H := hP
          have hl : lv_has ls 11 [(0, .ref (adr a0)), (1, .int x1), (2, .int x2), (3, .int x3), (4, .int s0_15_2591), (6, .int x6_79_2606), (7, .int x7_65_2601), (8, .int x8_65_2602), (9, .int x9_79_2607), (10, .int x10_79_2608)] := hl
          have h : m_X12_valueOf_b79 a0 x1 x2 x3 s0_15_2591 x7_65_2601 x8_65_2602 M rc34_2597 rc65_2603 rc79_2609 x6_79_2606 x9_79_2607 x10_79_2608 = some _ := h
          unfold m_X12_valueOf_b79 at h
          refine lv_iload hx hb dX12_valueOf_79 (lv_at hl 7 rfl) ?_
          refine lv_iload hx hb dX12_valueOf_81 (lv_at hl 9 rfl) ?_
          refine lv_iadd hx hb dX12_valueOf_83 ?_
          refine lv_iload hx hb dX12_valueOf_84 (lv_at hl 4 rfl) ?_
          refine lv_icmp_ge (tgt := 136) hx hb dX12_valueOf_86 (by decide) (fun c86_2611 => ?_) (fun c86_2611 => ?_)
          · rw [if_pos c86_2611] at h
            refine lv_iload hx hb dX12_valueOf_136 (lv_at hl 6 rfl) ?_
            refine lv_iload_n hx hb dX12_valueOf_138 rfl (lv_at hl 2 rfl) ?_
            refine lv_imul hx hb dX12_valueOf_139 ?_
            refine lv_aload_n hx hb dX12_valueOf_140 rfl (lv_at hl 0 rfl) ?_
            refine sm_get (ci := 12) (C := RX12) (T := TX12) (N := 54) (v := .int (M a0 0)) hx hb hts hin12 hown hE hP ha0 rfl rfl 0 (by decide) (hts (.fieldLink RX12 7 "OrderMoverModel" "p" "I") (by decide +kernel)) (fun _ h9 => h9) rfl dX12_valueOf_141 ?_
            obtain ⟨c144_2612, h⟩ := sm_ck h
            refine lv_irem hx hb dX12_valueOf_144 c144_2612 ?_
            refine lv_istore (lv' := [(7, .int ((x7_65_2601 * x2) - (x7_65_2601 * x2) / (M a0 0) * (M a0 0))), (0, .ref (adr a0)), (1, .int x1), (2, .int x2), (3, .int x3), (4, .int s0_15_2591), (6, .int x6_79_2606), (8, .int x8_65_2602), (9, .int x9_79_2607), (10, .int x10_79_2608)]) hx hb dX12_valueOf_145 hl (by decide) rfl (fun ls hl => ?_)
            refine lv_iinc (v := (x8_65_2602 + (1 : Int32))) (lv' := [(8, .int (x8_65_2602 + (1 : Int32))), (7, .int ((x7_65_2601 * x2) - (x7_65_2601 * x2) / (M a0 0) * (M a0 0))), (0, .ref (adr a0)), (1, .int x1), (2, .int x2), (3, .int x3), (4, .int s0_15_2591), (6, .int x6_79_2606), (9, .int x9_79_2607), (10, .int x10_79_2608)]) hx hb dX12_valueOf_147 hl (k := 7) rfl (congrArg (fun z => x8_65_2602 + z) (by decide)) (by decide) rfl (fun ls hl => ?_)
            refine lv_goto (tgt := 65) hx hb dX12_valueOf_150 (by decide) ?_
            exact ih65_2604 (x6_79_2606, ((x7_65_2601 * x2) - (x7_65_2601 * x2) / (M a0 0) * (M a0 0)), (x8_65_2602 + (1 : Int32))) _ _ _ h ⟨hP, hS, lv_sub hl [2, 3, 4, 5, 6, 7, 1, 0] rfl⟩
          · rw [if_neg c86_2611] at h
            refine lv_iload hx hb dX12_valueOf_89 (lv_at hl 5 rfl) ?_
            refine lv_aload_n hx hb dX12_valueOf_91 rfl (lv_at hl 0 rfl) ?_
            refine sm_get (ci := 12) (C := RX12) (T := TX12) (N := 54) (v := .ref (adr (a0 + 1))) hx hb hts hin12 hown hE hP ha0 rfl rfl 5 (by decide) (hts (.fieldLink RX12 25 "OrderMoverModel" "coefficients" "[I") (by decide +kernel)) (fun _ h9 => h9) rfl dX12_valueOf_92 ?_
            refine lv_bipush (v := (9 : Int32)) hx hb dX12_valueOf_95 (by decide) ?_
            refine lv_iload_n hx hb dX12_valueOf_97 rfl (lv_at hl 1 rfl) ?_
            refine lv_imul hx hb dX12_valueOf_98 ?_
            refine lv_iconst (v := (3 : Int32)) hx hb dX12_valueOf_99 (by decide) ?_
            refine lv_iload hx hb dX12_valueOf_100 (lv_at hl 7 rfl) ?_
            refine lv_imul hx hb dX12_valueOf_102 ?_
            refine lv_iadd hx hb dX12_valueOf_103 ?_
            refine lv_iload hx hb dX12_valueOf_104 (lv_at hl 9 rfl) ?_
            refine lv_iadd hx hb dX12_valueOf_106 ?_
            obtain ⟨c107_2613, h⟩ := sm_ck h
            refine sm_iald hx hb hE hP (t12_5 ha0) c107_2613 dX12_valueOf_107 ?_
            refine lv_iload hx hb dX12_valueOf_108 (lv_at hl 8 rfl) ?_
            refine lv_imul hx hb dX12_valueOf_110 ?_
            refine lv_iadd hx hb dX12_valueOf_111 ?_
            refine lv_aload_n hx hb dX12_valueOf_112 rfl (lv_at hl 0 rfl) ?_
            refine sm_get (ci := 12) (C := RX12) (T := TX12) (N := 54) (v := .int (M a0 0)) hx hb hts hin12 hown hE hP ha0 rfl rfl 0 (by decide) (hts (.fieldLink RX12 7 "OrderMoverModel" "p" "I") (by decide +kernel)) (fun _ h9 => h9) rfl dX12_valueOf_113 ?_
            obtain ⟨c116_2614, h⟩ := sm_ck h
            refine lv_irem hx hb dX12_valueOf_116 c116_2614 ?_
            refine lv_istore (lv' := [(6, .int ((x6_79_2606 + ((M (a0 + 1) (((((9 : Int32) * x1) + ((3 : Int32) * x8_65_2602)) + x10_79_2608)).toNatClampNeg) * x9_79_2607)) - (x6_79_2606 + ((M (a0 + 1) (((((9 : Int32) * x1) + ((3 : Int32) * x8_65_2602)) + x10_79_2608)).toNatClampNeg) * x9_79_2607)) / (M a0 0) * (M a0 0))), (0, .ref (adr a0)), (1, .int x1), (2, .int x2), (3, .int x3), (4, .int s0_15_2591), (7, .int x7_65_2601), (8, .int x8_65_2602), (9, .int x9_79_2607), (10, .int x10_79_2608)]) hx hb dX12_valueOf_117 hl (by decide) rfl (fun ls hl => ?_)
            refine lv_iload hx hb dX12_valueOf_119 (lv_at hl 8 rfl) ?_
            refine lv_iload_n hx hb dX12_valueOf_121 rfl (lv_at hl 4 rfl) ?_
            refine lv_imul hx hb dX12_valueOf_122 ?_
            refine lv_aload_n hx hb dX12_valueOf_123 rfl (lv_at hl 1 rfl) ?_
            refine sm_get (ci := 12) (C := RX12) (T := TX12) (N := 54) (v := .int (M a0 0)) hx hb hts hin12 hown hE hP ha0 rfl rfl 0 (by decide) (hts (.fieldLink RX12 7 "OrderMoverModel" "p" "I") (by decide +kernel)) (fun _ h9 => h9) rfl dX12_valueOf_124 ?_
            obtain ⟨c127_2615, h⟩ := sm_ck h
            refine lv_irem hx hb dX12_valueOf_127 c127_2615 ?_
            refine lv_istore (lv' := [(9, .int ((x9_79_2607 * x3) - (x9_79_2607 * x3) / (M a0 0) * (M a0 0))), (6, .int ((x6_79_2606 + ((M (a0 + 1) (((((9 : Int32) * x1) + ((3 : Int32) * x8_65_2602)) + x10_79_2608)).toNatClampNeg) * x9_79_2607)) - (x6_79_2606 + ((M (a0 + 1) (((((9 : Int32) * x1) + ((3 : Int32) * x8_65_2602)) + x10_79_2608)).toNatClampNeg) * x9_79_2607)) / (M a0 0) * (M a0 0))), (0, .ref (adr a0)), (1, .int x1), (2, .int x2), (3, .int x3), (4, .int s0_15_2591), (7, .int x7_65_2601), (8, .int x8_65_2602), (10, .int x10_79_2608)]) hx hb dX12_valueOf_128 hl (by decide) rfl (fun ls hl => ?_)
            refine lv_iinc (v := (x10_79_2608 + (1 : Int32))) (lv' := [(10, .int (x10_79_2608 + (1 : Int32))), (9, .int ((x9_79_2607 * x3) - (x9_79_2607 * x3) / (M a0 0) * (M a0 0))), (6, .int ((x6_79_2606 + ((M (a0 + 1) (((((9 : Int32) * x1) + ((3 : Int32) * x8_65_2602)) + x10_79_2608)).toNatClampNeg) * x9_79_2607)) - (x6_79_2606 + ((M (a0 + 1) (((((9 : Int32) * x1) + ((3 : Int32) * x8_65_2602)) + x10_79_2608)).toNatClampNeg) * x9_79_2607)) / (M a0 0) * (M a0 0))), (0, .ref (adr a0)), (1, .int x1), (2, .int x2), (3, .int x3), (4, .int s0_15_2591), (7, .int x7_65_2601), (8, .int x8_65_2602)]) hx hb dX12_valueOf_130 hl (k := 9) rfl (congrArg (fun z => x10_79_2608 + z) (by decide)) (by decide) rfl (fun ls hl => ?_)
            refine lv_goto (tgt := 79) hx hb dX12_valueOf_133 (by decide) ?_
            exact ih79_2610 (((x6_79_2606 + ((M (a0 + 1) (((((9 : Int32) * x1) + ((3 : Int32) * x8_65_2602)) + x10_79_2608)).toNatClampNeg) * x9_79_2607)) - (x6_79_2606 + ((M (a0 + 1) (((((9 : Int32) * x1) + ((3 : Int32) * x8_65_2602)) + x10_79_2608)).toNatClampNeg) * x9_79_2607)) / (M a0 0) * (M a0 0)), ((x9_79_2607 * x3) - (x9_79_2607 * x3) / (M a0 0) * (M a0 0)), (x10_79_2608 + (1 : Int32))) _ _ _ h ⟨hP, hS, lv_sub hl [3, 4, 5, 6, 7, 2, 8, 9, 1, 0] rfl⟩
      · rw [if_neg c38_2599] at h
        refine lv_iload hx hb dX12_valueOf_41 (lv_at hl 6 rfl) ?_
        refine lv_iload hx hb dX12_valueOf_43 (lv_at hl 5 rfl) ?_
        refine lv_imul hx hb dX12_valueOf_45 ?_
        refine lv_aload_n hx hb dX12_valueOf_46 rfl (lv_at hl 0 rfl) ?_
        refine sm_get (ci := 12) (C := RX12) (T := TX12) (N := 54) (v := .int (M a0 0)) hx hb hts hin12 hown hE hP ha0 rfl rfl 0 (by decide) (hts (.fieldLink RX12 7 "OrderMoverModel" "p" "I") (by decide +kernel)) (fun _ h9 => h9) rfl dX12_valueOf_47 ?_
        obtain ⟨c50_2616, h⟩ := sm_ck h
        refine lv_irem hx hb dX12_valueOf_50 c50_2616 ?_
        refine lv_istore (lv' := [(6, .int ((x6_34_2595 * s0_26_2593) - (x6_34_2595 * s0_26_2593) / (M a0 0) * (M a0 0))), (0, .ref (adr a0)), (1, .int x1), (2, .int x2), (3, .int x3), (4, .int s0_15_2591), (5, .int s0_26_2593), (7, .int x7_34_2596)]) hx hb dX12_valueOf_51 hl (by decide) rfl (fun ls hl => ?_)
        refine lv_iinc (v := (x7_34_2596 + (1 : Int32))) (lv' := [(7, .int (x7_34_2596 + (1 : Int32))), (6, .int ((x6_34_2595 * s0_26_2593) - (x6_34_2595 * s0_26_2593) / (M a0 0) * (M a0 0))), (0, .ref (adr a0)), (1, .int x1), (2, .int x2), (3, .int x3), (4, .int s0_15_2591), (5, .int s0_26_2593)]) hx hb dX12_valueOf_53 hl (k := 7) rfl (congrArg (fun z => x7_34_2596 + z) (by decide)) (by decide) rfl (fun ls hl => ?_)
        refine lv_goto (tgt := 34) hx hb dX12_valueOf_56 (by decide) ?_
        exact ih34_2598 (((x6_34_2595 * s0_26_2593) - (x6_34_2595 * s0_26_2593) / (M a0 0) * (M a0 0)), (x7_34_2596 + (1 : Int32))) _ _ _ h ⟨hP, hS, lv_sub hl [2, 3, 4, 5, 6, 7, 1, 0] rfl⟩
    refine lv_if_ne (tgt := 25) hx hb dX12_valueOf_18 (by decide) (fun c18_2617 => ?_) (fun c18_2617 => ?_)
    · rw [if_neg c18_2617] at h
      refine lv_iload_n hx hb dX12_valueOf_25 rfl (lv_at hl 4 rfl) ?_
      exact J26_2594 x3 _ _ _ h ⟨hP, hS, lv_sub hl [1, 2, 3, 4, 0] rfl⟩
    · rw [if_pos c18_2617] at h
      refine lv_iload_n hx hb dX12_valueOf_21 rfl (lv_at hl 3 rfl) ?_
      refine lv_goto (tgt := 26) hx hb dX12_valueOf_22 (by decide) ?_
      exact J26_2594 x2 _ _ _ h ⟨hP, hS, lv_sub hl [1, 2, 3, 4, 0] rfl⟩
  refine lv_if_ne (tgt := 11) hx hb dX12_valueOf_1 (by decide) (fun c1_2618 => ?_) (fun c1_2618 => ?_)
  · rw [if_neg c1_2618] at h
    refine lv_aload_n hx hb dX12_valueOf_11 rfl (lv_at hl 0 rfl) ?_
    refine sm_get (ci := 12) (C := RX12) (T := TX12) (N := 54) (v := .int (M a0 2)) hx hb hts hin12 hown hE hP ha0 rfl rfl 2 (by decide) (hts (.fieldLink RX12 16 "OrderMoverModel" "powerB" "I") (by decide +kernel)) (fun _ h9 => h9) rfl dX12_valueOf_12 ?_
    exact J15_2592 (M a0 2) _ _ _ h ⟨hP, hS, lv_sub hl [0, 1, 2, 3] rfl⟩
  · rw [if_pos c1_2618] at h
    refine lv_aload_n hx hb dX12_valueOf_4 rfl (lv_at hl 0 rfl) ?_
    refine sm_get (ci := 12) (C := RX12) (T := TX12) (N := 54) (v := .int (M a0 1)) hx hb hts hin12 hown hE hP ha0 rfl rfl 1 (by decide) (hts (.fieldLink RX12 13 "OrderMoverModel" "powerA" "I") (by decide +kernel)) (fun _ h9 => h9) rfl dX12_valueOf_5 ?_
    refine lv_goto (tgt := 15) hx hb dX12_valueOf_8 (by decide) ?_
    exact J15_2592 (M a0 1) _ _ _ h ⟨hP, hS, lv_sub hl [0, 1, 2, 3] rfl⟩
set_option maxHeartbeats 4000000 in
set_option maxRecDepth 100000 in
theorem k_X12_findsRoots (l : Launch) (D : va_G) (cA : Nat → ClassId) (adr : Nat → Nat) (hJ : smJ 2 adr) (a0 : Nat) (ha0 : smT 2 a0 12) (M : smM) (M1 : smM) (h : m_X12_findsRoots a0 M = some M1) : Met l yX12_findsRoots wsX12_findsRoots ({ frames := 1, cells := 0, slots := 0, locals := 30 }) (smPc D cA 2 adr M [.ref (adr a0)]) (smQv D cA 2 adr M1) 0 0 (smA 2 adr) := by
  refine Met.ofW (cc := cX12_findsRoots) (maxL := 3) (ret := none) (by decide) rfl ?_
  intro p e s m args below meth c s₁ B hml hv
  obtain ⟨rfl, hE, hP⟩ := hv
  have hx := B.exec
  have hb := B.bytes
  have hr := B.returns
  have hts := atoms_spec (ws := wsX12_findsRoots) B.pre
  have hown : s.vm.findClass RX12 = some m.cls := findClass_of_methodNamed B.named
  have hlocks := B.notSynchronized
  have hS : va_S (smA 2 adr) s.heap s.heap [] := va_S.rf
  have hP : smP D cA 2 adr M s.heap := hP
  have hl := lv_entry ([.ref (adr a0)]) (n := 3) (Nat.le_of_ble_eq_true rfl)
  rw [lg_entry_eq]
  generalize (lg_sl ([.ref (adr a0)]) ++ List.replicate (3 - (lg_sl ([.ref (adr a0)])).length) Slot.unset).toArray = ls at hl ⊢
  have hl : lv_has ls 3 [(0, .ref (adr a0))] := hl
  unfold m_X12_findsRoots at h
  have hin12 : ∀ w ∈ u_ws RX12 TX12 54, w ∈ wsX12_findsRoots := by decide +kernel
  refine lv_aload_n hx hb dX12_findsRoots_0 rfl (lv_at hl 0 rfl) ?_
  refine lv_iconst (v := (0 : Int32)) hx hb dX12_findsRoots_1 (by decide) ?_
  refine sm_put (ci := 12) (C := RX12) (T := TX12) (N := 54) (ty := .int) hx hb hts hin12 tyX12 tyX12_ok nmX12 hown hE hJ hP hS ha0 rfl rfl 46 (by decide) (hts (.fieldLink RX12 285 "OrderMoverModel" "roots" "I") (by decide +kernel)) (fun _ h9 => h9) rfl (by decide +kernel) rfl rfl (Nat.le_of_ble_eq_true rfl) rfl dX12_findsRoots_2 (fun H locs hP hS => ?_)
  obtain ⟨M2_2619, hM, h⟩ := sm_lt h
  rw [← hM] at hP; clear hM
  refine lv_iconst (v := (0 : Int32)) hx hb dX12_findsRoots_5 (by decide) ?_
  refine lv_istore_n (lv' := [(1, .int (0 : Int32)), (0, .ref (adr a0))]) hx hb dX12_findsRoots_6 rfl hl (by decide) rfl (fun ls hl => ?_)
  refine sm_lp (b := fun rc q => m_X12_findsRoots_b7 a0 rc q.1 q.2) (P := fun (q : Int32 × smM) H locs ls => smP D cA 2 adr q.2 H ∧ va_S (smA 2 adr) s.heap H locs ∧ lv_has ls 3 [(0, .ref (adr a0)), (1, .int q.1)]) (pc := 7) ?_ _ _ _ _ _ h ⟨hP, hS, lv_sub hl [1, 0] rfl⟩
  intro rc7_2622 ih7_2623 q H locs ls h hI
  obtain ⟨x1_7_2620, M7_2621⟩ := q
  obtain ⟨hP, hS, hl⟩ := hI
  have hP : smP D cA 2 adr M7_2621 H := hP
  have hl : lv_has ls 3 [(0, .ref (adr a0)), (1, .int x1_7_2620)] := hl
  have h : m_X12_findsRoots_b7 a0 rc7_2622 x1_7_2620 M7_2621 = some _ := h
  unfold m_X12_findsRoots_b7 at h
  refine lv_iload_n hx hb dX12_findsRoots_7 rfl (lv_at hl 1 rfl) ?_
  refine lv_aload_n hx hb dX12_findsRoots_8 rfl (lv_at hl 0 rfl) ?_
  refine sm_get (ci := 12) (C := RX12) (T := TX12) (N := 54) (v := .int (M7_2621 a0 0)) hx hb hts hin12 hown hE hP ha0 rfl rfl 0 (by decide) (hts (.fieldLink RX12 7 "OrderMoverModel" "p" "I") (by decide +kernel)) (fun _ h9 => h9) rfl dX12_findsRoots_9 ?_
  refine lv_icmp_ge (tgt := 87) hx hb dX12_findsRoots_12 (by decide) (fun c12_2624 => ?_) (fun c12_2624 => ?_)
  · rw [if_pos c12_2624] at h
    cases h
    exact sm_vret hx hb hr hlocks hP hS dX12_findsRoots_87
  · rw [if_neg c12_2624] at h
    refine lv_iconst (v := (0 : Int32)) hx hb dX12_findsRoots_15 (by decide) ?_
    refine lv_istore_n (lv' := [(2, .int (0 : Int32)), (0, .ref (adr a0)), (1, .int x1_7_2620)]) hx hb dX12_findsRoots_16 rfl hl (by decide) rfl (fun ls hl => ?_)
    refine sm_lp (b := fun rc q => m_X12_findsRoots_b17 a0 x1_7_2620 rc7_2622 rc q.1 q.2) (P := fun (q : Int32 × smM) H locs ls => smP D cA 2 adr q.2 H ∧ va_S (smA 2 adr) s.heap H locs ∧ lv_has ls 3 [(0, .ref (adr a0)), (1, .int x1_7_2620), (2, .int q.1)]) (pc := 17) ?_ _ _ _ _ _ h ⟨hP, hS, lv_sub hl [1, 2, 0] rfl⟩
    intro rc17_2627 ih17_2628 q H locs ls h hI
    obtain ⟨x2_17_2625, M17_2626⟩ := q
    obtain ⟨hP, hS, hl⟩ := hI
    have hP : smP D cA 2 adr M17_2626 H := hP
    have hl : lv_has ls 3 [(0, .ref (adr a0)), (1, .int x1_7_2620), (2, .int x2_17_2625)] := hl
    have h : m_X12_findsRoots_b17 a0 x1_7_2620 rc7_2622 rc17_2627 x2_17_2625 M17_2626 = some _ := h
    unfold m_X12_findsRoots_b17 at h
    refine lv_iload_n hx hb dX12_findsRoots_17 rfl (lv_at hl 2 rfl) ?_
    refine lv_aload_n hx hb dX12_findsRoots_18 rfl (lv_at hl 0 rfl) ?_
    refine sm_get (ci := 12) (C := RX12) (T := TX12) (N := 54) (v := .int (M17_2626 a0 0)) hx hb hts hin12 hown hE hP ha0 rfl rfl 0 (by decide) (hts (.fieldLink RX12 7 "OrderMoverModel" "p" "I") (by decide +kernel)) (fun _ h9 => h9) rfl dX12_findsRoots_19 ?_
    refine lv_icmp_ge (tgt := 81) hx hb dX12_findsRoots_22 (by decide) (fun c22_2629 => ?_) (fun c22_2629 => ?_)
    · rw [if_pos c22_2629] at h
      refine lv_iinc (v := (x1_7_2620 + (1 : Int32))) (lv' := [(1, .int (x1_7_2620 + (1 : Int32))), (0, .ref (adr a0)), (2, .int x2_17_2625)]) hx hb dX12_findsRoots_81 hl (k := 1) rfl (congrArg (fun z => x1_7_2620 + z) (by decide)) (by decide) rfl (fun ls hl => ?_)
      refine lv_goto (tgt := 7) hx hb dX12_findsRoots_84 (by decide) ?_
      exact ih7_2623 ((x1_7_2620 + (1 : Int32)), M17_2626) _ _ _ h ⟨hP, hS, lv_sub hl [1, 0] rfl⟩
    · rw [if_neg c22_2629] at h
      refine lv_aload_n hx hb dX12_findsRoots_25 rfl (lv_at hl 0 rfl) ?_
      refine lv_iconst (v := (0 : Int32)) hx hb dX12_findsRoots_26 (by decide) ?_
      refine lv_iload_n hx hb dX12_findsRoots_27 rfl (lv_at hl 1 rfl) ?_
      refine lv_iload_n hx hb dX12_findsRoots_28 rfl (lv_at hl 2 rfl) ?_
      obtain ⟨v29_2630, hc29_2632, h⟩ := sm_bd h
      refine sm_ci (va_runV (As := [.int (0 : Int32), .int x1_7_2620, .int x2_17_2625]) (rest := []) ⟨hx, hb, hml, hown, hts⟩ (k_X12_valueOf l D cA adr hJ a0 (0 : Int32) x1_7_2620 x2_17_2625 ha0 M17_2626 v29_2630 hc29_2632) (cwV 3 hts gX12_findsRoots_X12_valueOf rfl rfl rfl (by decide +kernel) ⟨Nat.le_of_ble_eq_true rfl, Nat.le_of_ble_eq_true rfl⟩) ⟨smPc_bl, smRv hE hP ha0 rfl (ci := 12) (q := (RX12, TX12, 54)) rfl, smPc_in [.ref (adr a0), .int (0 : Int32), .int x1_7_2620, .int x2_17_2625] hE hP⟩ rfl rfl hl.1 rfl (lv_room (Nat.le_of_ble_eq_true rfl)) dX12_findsRoots_29 ⟨Nat.zero_le _, Nat.zero_le _⟩) hS (fun H locs hP hS => ?_)
      refine lv_if_ne (tgt := 75) hx hb dX12_findsRoots_32 (by decide) (fun c32_2633 => ?_) (fun c32_2633 => ?_)
      · rw [if_neg c32_2633] at h
        refine lv_iinc (v := (x2_17_2625 + (1 : Int32))) (lv' := [(2, .int (x2_17_2625 + (1 : Int32))), (0, .ref (adr a0)), (1, .int x1_7_2620)]) hx hb dX12_findsRoots_75 hl (k := 2) rfl (congrArg (fun z => x2_17_2625 + z) (by decide)) (by decide) rfl (fun ls hl => ?_)
        refine lv_goto (tgt := 17) hx hb dX12_findsRoots_78 (by decide) ?_
        exact ih17_2628 ((x2_17_2625 + (1 : Int32)), M17_2626) _ _ _ h ⟨hP, hS, lv_sub hl [1, 2, 0] rfl⟩
      · rw [if_pos c32_2633] at h
        refine lv_aload_n hx hb dX12_findsRoots_35 rfl (lv_at hl 0 rfl) ?_
        refine lv_iconst (v := (1 : Int32)) hx hb dX12_findsRoots_36 (by decide) ?_
        refine lv_iload_n hx hb dX12_findsRoots_37 rfl (lv_at hl 1 rfl) ?_
        refine lv_iload_n hx hb dX12_findsRoots_38 rfl (lv_at hl 2 rfl) ?_
        obtain ⟨v39_2634, hc39_2636, h⟩ := sm_bd h
        refine sm_ci (va_runV (As := [.int (1 : Int32), .int x1_7_2620, .int x2_17_2625]) (rest := []) ⟨hx, hb, hml, hown, hts⟩ (k_X12_valueOf l D cA adr hJ a0 (1 : Int32) x1_7_2620 x2_17_2625 ha0 M17_2626 v39_2634 hc39_2636) (cwV 3 hts gX12_findsRoots_X12_valueOf rfl rfl rfl (by decide +kernel) ⟨Nat.le_of_ble_eq_true rfl, Nat.le_of_ble_eq_true rfl⟩) ⟨smPc_bl, smRv hE hP ha0 rfl (ci := 12) (q := (RX12, TX12, 54)) rfl, smPc_in [.ref (adr a0), .int (1 : Int32), .int x1_7_2620, .int x2_17_2625] hE hP⟩ rfl rfl hl.1 rfl (lv_room (Nat.le_of_ble_eq_true rfl)) dX12_findsRoots_39 ⟨Nat.zero_le _, Nat.zero_le _⟩) hS (fun H locs hP hS => ?_)
        refine lv_if_ne (tgt := 75) hx hb dX12_findsRoots_42 (by decide) (fun c42_2637 => ?_) (fun c42_2637 => ?_)
        · rw [if_neg c42_2637] at h
          refine lv_iinc (v := (x2_17_2625 + (1 : Int32))) (lv' := [(2, .int (x2_17_2625 + (1 : Int32))), (0, .ref (adr a0)), (1, .int x1_7_2620)]) hx hb dX12_findsRoots_75 hl (k := 2) rfl (congrArg (fun z => x2_17_2625 + z) (by decide)) (by decide) rfl (fun ls hl => ?_)
          refine lv_goto (tgt := 17) hx hb dX12_findsRoots_78 (by decide) ?_
          exact ih17_2628 ((x2_17_2625 + (1 : Int32)), M17_2626) _ _ _ h ⟨hP, hS, lv_sub hl [1, 2, 0] rfl⟩
        · rw [if_pos c42_2637] at h
          refine lv_aload_n hx hb dX12_findsRoots_45 rfl (lv_at hl 0 rfl) ?_
          refine sm_get (ci := 12) (C := RX12) (T := TX12) (N := 54) (v := .ref (adr (a0 + 35))) hx hb hts hin12 hown hE hP ha0 rfl rfl 47 (by decide) (hts (.fieldLink RX12 129 "OrderMoverModel" "rootX" "[I") (by decide +kernel)) (fun _ h9 => h9) rfl dX12_findsRoots_46 ?_
          refine lv_aload_n hx hb dX12_findsRoots_49 rfl (lv_at hl 0 rfl) ?_
          refine sm_get (ci := 12) (C := RX12) (T := TX12) (N := 54) (v := .int (M17_2626 a0 46)) hx hb hts hin12 hown hE hP ha0 rfl rfl 46 (by decide) (hts (.fieldLink RX12 285 "OrderMoverModel" "roots" "I") (by decide +kernel)) (fun _ h9 => h9) rfl dX12_findsRoots_50 ?_
          refine lv_iload_n hx hb dX12_findsRoots_53 rfl (lv_at hl 1 rfl) ?_
          obtain ⟨c54_2638, h⟩ := sm_ck h
          refine sm_iast hx hb hE hJ hP hS (t12_47 ha0) c54_2638 dX12_findsRoots_54 (fun H locs hP hS => ?_)
          obtain ⟨M54_2639, hM, h⟩ := sm_lt h
          rw [← hM] at hP; clear hM
          refine lv_aload_n hx hb dX12_findsRoots_55 rfl (lv_at hl 0 rfl) ?_
          refine sm_get (ci := 12) (C := RX12) (T := TX12) (N := 54) (v := .ref (adr (a0 + 36))) hx hb hts hin12 hown hE hP ha0 rfl rfl 48 (by decide) (hts (.fieldLink RX12 132 "OrderMoverModel" "rootY" "[I") (by decide +kernel)) (fun _ h9 => h9) rfl dX12_findsRoots_56 ?_
          refine lv_aload_n hx hb dX12_findsRoots_59 rfl (lv_at hl 0 rfl) ?_
          refine sm_get (ci := 12) (C := RX12) (T := TX12) (N := 54) (v := .int (M54_2639 a0 46)) hx hb hts hin12 hown hE hP ha0 rfl rfl 46 (by decide) (hts (.fieldLink RX12 285 "OrderMoverModel" "roots" "I") (by decide +kernel)) (fun _ h9 => h9) rfl dX12_findsRoots_60 ?_
          refine lv_iload_n hx hb dX12_findsRoots_63 rfl (lv_at hl 2 rfl) ?_
          obtain ⟨c64_2640, h⟩ := sm_ck h
          refine sm_iast hx hb hE hJ hP hS (t12_48 ha0) c64_2640 dX12_findsRoots_64 (fun H locs hP hS => ?_)
          obtain ⟨M64_2641, hM, h⟩ := sm_lt h
          rw [← hM] at hP; clear hM
          refine lv_aload_n hx hb dX12_findsRoots_65 rfl (lv_at hl 0 rfl) ?_
          refine lv_dup hx hb dX12_findsRoots_66 rfl ?_
          refine sm_get (ci := 12) (C := RX12) (T := TX12) (N := 54) (v := .int (M64_2641 a0 46)) hx hb hts hin12 hown hE hP ha0 rfl rfl 46 (by decide) (hts (.fieldLink RX12 285 "OrderMoverModel" "roots" "I") (by decide +kernel)) (fun _ h9 => h9) rfl dX12_findsRoots_67 ?_
          refine lv_iconst (v := (1 : Int32)) hx hb dX12_findsRoots_70 (by decide) ?_
          refine lv_iadd hx hb dX12_findsRoots_71 ?_
          refine sm_put (ci := 12) (C := RX12) (T := TX12) (N := 54) (ty := .int) hx hb hts hin12 tyX12 tyX12_ok nmX12 hown hE hJ hP hS ha0 rfl rfl 46 (by decide) (hts (.fieldLink RX12 285 "OrderMoverModel" "roots" "I") (by decide +kernel)) (fun _ h9 => h9) rfl (by decide +kernel) rfl rfl (Nat.le_of_ble_eq_true rfl) rfl dX12_findsRoots_72 (fun H locs hP hS => ?_)
          obtain ⟨M72_2642, hM, h⟩ := sm_lt h
          rw [← hM] at hP; clear hM
          refine lv_iinc (v := (x2_17_2625 + (1 : Int32))) (lv' := [(2, .int (x2_17_2625 + (1 : Int32))), (0, .ref (adr a0)), (1, .int x1_7_2620)]) hx hb dX12_findsRoots_75 hl (k := 2) rfl (congrArg (fun z => x2_17_2625 + z) (by decide)) (by decide) rfl (fun ls hl => ?_)
          refine lv_goto (tgt := 17) hx hb dX12_findsRoots_78 (by decide) ?_
          exact ih17_2628 ((x2_17_2625 + (1 : Int32)), M72_2642) _ _ _ h ⟨hP, hS, lv_sub hl [1, 2, 0] rfl⟩
set_option maxHeartbeats 4000000 in
set_option maxRecDepth 100000 in
theorem k_X12_count (l : Launch) (D : va_G) (cA : Nat → ClassId) (adr : Nat → Nat) (hJ : smJ 2 adr) (a0 : Nat) (x1 : Int32) (ha0 : smT 2 a0 12) (M : smM) (v1 : Int32) (M1 : smM) (h : m_X12_count a0 x1 M = some (v1, M1)) : Met l yX12_count wsX12_count ({ frames := 7, cells := 0, slots := 0, locals := 166 }) (smPc D cA 2 adr M [.ref (adr a0), .int x1]) (smQi D cA 2 adr M1 v1) 0 0 (smA 2 adr) := by
  refine Met.ofW (cc := cX12_count) (maxL := 2) (ret := (some .int)) (by decide) rfl ?_
  intro p e s m args below meth c s₁ B hml hv
  obtain ⟨rfl, hE, hP⟩ := hv
  have hx := B.exec
  have hb := B.bytes
  have hr := B.returns
  have hts := atoms_spec (ws := wsX12_count) B.pre
  have hown : s.vm.findClass RX12 = some m.cls := findClass_of_methodNamed B.named
  have hlocks := B.notSynchronized
  have hS : va_S (smA 2 adr) s.heap s.heap [] := va_S.rf
  have hP : smP D cA 2 adr M s.heap := hP
  have hl := lv_entry ([.ref (adr a0), .int x1]) (n := 2) (Nat.le_of_ble_eq_true rfl)
  rw [lg_entry_eq]
  generalize (lg_sl ([.ref (adr a0), .int x1]) ++ List.replicate (2 - (lg_sl ([.ref (adr a0), .int x1])).length) Slot.unset).toArray = ls at hl ⊢
  have hl : lv_has ls 2 [(0, .ref (adr a0)), (1, .int x1)] := hl
  unfold m_X12_count at h
  have hin12 : ∀ w ∈ u_ws RX12 TX12 54, w ∈ wsX12_count := by decide +kernel
  refine lv_iload_n hx hb dX12_count_0 rfl (lv_at hl 1 rfl) ?_
  by_cases c1_2643 : x1 = (0 : Int32)
  · rw [if_pos c1_2643] at h
    refine lv_tableIn (tgt := 60) hx hb dX12_count_1 (by rw [c1_2643]; decide) (by rw [c1_2643]; decide) (by rw [c1_2643]; rfl) (by decide) ?_
    refine lv_aload_n hx hb dX12_count_60 rfl (lv_at hl 0 rfl) ?_
    refine sm_get (ci := 12) (C := RX12) (T := TX12) (N := 54) (v := .int (M a0 0)) hx hb hts hin12 hown hE hP ha0 rfl rfl 0 (by decide) (hts (.fieldLink RX12 7 "OrderMoverModel" "p" "I") (by decide +kernel)) (fun _ h9 => h9) rfl dX12_count_61 ?_
    cases h
    exact sm_iret hx hb hr hlocks hP hS dX12_count_64
  rw [if_neg c1_2643] at h
  by_cases c1_2644 : x1 = (1 : Int32)
  · rw [if_pos c1_2644] at h
    refine lv_tableIn (tgt := 65) hx hb dX12_count_1 (by rw [c1_2644]; decide) (by rw [c1_2644]; decide) (by rw [c1_2644]; rfl) (by decide) ?_
    refine lv_aload_n hx hb dX12_count_65 rfl (lv_at hl 0 rfl) ?_
    refine sm_get (ci := 12) (C := RX12) (T := TX12) (N := 54) (v := .int (M a0 1)) hx hb hts hin12 hown hE hP ha0 rfl rfl 1 (by decide) (hts (.fieldLink RX12 13 "OrderMoverModel" "powerA" "I") (by decide +kernel)) (fun _ h9 => h9) rfl dX12_count_66 ?_
    cases h
    exact sm_iret hx hb hr hlocks hP hS dX12_count_69
  rw [if_neg c1_2644] at h
  by_cases c1_2645 : x1 = (2 : Int32)
  · rw [if_pos c1_2645] at h
    refine lv_tableIn (tgt := 70) hx hb dX12_count_1 (by rw [c1_2645]; decide) (by rw [c1_2645]; decide) (by rw [c1_2645]; rfl) (by decide) ?_
    refine lv_aload_n hx hb dX12_count_70 rfl (lv_at hl 0 rfl) ?_
    refine sm_get (ci := 12) (C := RX12) (T := TX12) (N := 54) (v := .int (M a0 2)) hx hb hts hin12 hown hE hP ha0 rfl rfl 2 (by decide) (hts (.fieldLink RX12 16 "OrderMoverModel" "powerB" "I") (by decide +kernel)) (fun _ h9 => h9) rfl dX12_count_71 ?_
    cases h
    exact sm_iret hx hb hr hlocks hP hS dX12_count_74
  rw [if_neg c1_2645] at h
  by_cases c1_2646 : x1 = (3 : Int32)
  · rw [if_pos c1_2646] at h
    refine lv_tableIn (tgt := 75) hx hb dX12_count_1 (by rw [c1_2646]; decide) (by rw [c1_2646]; decide) (by rw [c1_2646]; rfl) (by decide) ?_
    refine lv_aload_n hx hb dX12_count_75 rfl (lv_at hl 0 rfl) ?_
    obtain ⟨v76_2647, hc76_2649, h⟩ := sm_bd h
    refine sm_ci (va_runV (As := []) (rest := []) ⟨hx, hb, hml, hown, hts⟩ (k_X12_dimension l D cA adr hJ a0 ha0 M v76_2647 hc76_2649) (cwV 0 hts gX12_count_X12_dimension rfl rfl rfl (by decide +kernel) ⟨Nat.le_of_ble_eq_true rfl, Nat.le_of_ble_eq_true rfl⟩) ⟨smPc_bl, smRv hE hP ha0 rfl (ci := 12) (q := (RX12, TX12, 54)) rfl, smPc_in [.ref (adr a0)] hE hP⟩ rfl rfl hl.1 rfl (lv_room (Nat.le_of_ble_eq_true rfl)) dX12_count_76 ⟨Nat.zero_le _, Nat.zero_le _⟩) hS (fun H locs hP hS => ?_)
    cases h
    exact sm_iret hx hb hr hlocks hP hS dX12_count_79
  rw [if_neg c1_2646] at h
  by_cases c1_2650 : x1 = (4 : Int32)
  · rw [if_pos c1_2650] at h
    refine lv_tableIn (tgt := 80) hx hb dX12_count_1 (by rw [c1_2650]; decide) (by rw [c1_2650]; decide) (by rw [c1_2650]; rfl) (by decide) ?_
    refine lv_aload_n hx hb dX12_count_80 rfl (lv_at hl 0 rfl) ?_
    refine sm_get (ci := 12) (C := RX12) (T := TX12) (N := 54) (v := .int (M a0 3)) hx hb hts hin12 hown hE hP ha0 rfl rfl 3 (by decide) (hts (.fieldLink RX12 19 "OrderMoverModel" "u" "I") (by decide +kernel)) (fun _ h9 => h9) rfl dX12_count_81 ?_
    cases h
    exact sm_iret hx hb hr hlocks hP hS dX12_count_84
  rw [if_neg c1_2650] at h
  by_cases c1_2651 : x1 = (5 : Int32)
  · rw [if_pos c1_2651] at h
    refine lv_tableIn (tgt := 85) hx hb dX12_count_1 (by rw [c1_2651]; decide) (by rw [c1_2651]; decide) (by rw [c1_2651]; rfl) (by decide) ?_
    refine lv_aload_n hx hb dX12_count_85 rfl (lv_at hl 0 rfl) ?_
    refine sm_get (ci := 12) (C := RX12) (T := TX12) (N := 54) (v := .int (M a0 4)) hx hb hts hin12 hown hE hP ha0 rfl rfl 4 (by decide) (hts (.fieldLink RX12 22 "OrderMoverModel" "v" "I") (by decide +kernel)) (fun _ h9 => h9) rfl dX12_count_86 ?_
    cases h
    exact sm_iret hx hb hr hlocks hP hS dX12_count_89
  rw [if_neg c1_2651] at h
  by_cases c1_2652 : x1 = (6 : Int32)
  · rw [if_pos c1_2652] at h
    refine lv_tableIn (tgt := 90) hx hb dX12_count_1 (by rw [c1_2652]; decide) (by rw [c1_2652]; decide) (by rw [c1_2652]; rfl) (by decide) ?_
    refine lv_aload_n hx hb dX12_count_90 rfl (lv_at hl 0 rfl) ?_
    obtain ⟨v91_2653, M91_2654, hc91_2655, h⟩ := sm_bd2 h
    refine sm_ci (va_runV (As := []) (rest := []) ⟨hx, hb, hml, hown, hts⟩ (k_X12_isPlain l D cA adr hJ a0 ha0 M v91_2653 M91_2654 hc91_2655) (cwV 0 hts gX12_count_X12_isPlain rfl rfl rfl (by decide +kernel) ⟨Nat.le_of_ble_eq_true rfl, Nat.le_of_ble_eq_true rfl⟩) ⟨smPc_bl, smRv hE hP ha0 rfl (ci := 12) (q := (RX12, TX12, 54)) rfl, smPc_in [.ref (adr a0)] hE hP⟩ rfl rfl hl.1 rfl (lv_room (Nat.le_of_ble_eq_true rfl)) dX12_count_91 ⟨Nat.zero_le _, Nat.zero_le _⟩) hS (fun H locs hP hS => ?_)
    refine lv_if_eq (tgt := 101) hx hb dX12_count_94 (by decide) (fun c94_2656 => ?_) (fun c94_2656 => ?_)
    · rw [if_pos c94_2656] at h
      refine lv_iconst (v := (0 : Int32)) hx hb dX12_count_101 (by decide) ?_
      cases h
      exact sm_iret hx hb hr hlocks hP hS dX12_count_102
    · rw [if_neg c94_2656] at h
      refine lv_iconst (v := (1 : Int32)) hx hb dX12_count_97 (by decide) ?_
      refine lv_goto (tgt := 102) hx hb dX12_count_98 (by decide) ?_
      cases h
      exact sm_iret hx hb hr hlocks hP hS dX12_count_102
  rw [if_neg c1_2652] at h
  by_cases c1_2657 : x1 = (7 : Int32)
  · rw [if_pos c1_2657] at h
    refine lv_tableIn (tgt := 103) hx hb dX12_count_1 (by rw [c1_2657]; decide) (by rw [c1_2657]; decide) (by rw [c1_2657]; rfl) (by decide) ?_
    refine lv_aload_n hx hb dX12_count_103 rfl (lv_at hl 0 rfl) ?_
    refine lv_iconst (v := (0 : Int32)) hx hb dX12_count_104 (by decide) ?_
    obtain ⟨v105_2658, M105_2659, hc105_2660, h⟩ := sm_bd2 h
    refine sm_ci (va_runV (As := [.int (0 : Int32)]) (rest := []) ⟨hx, hb, hml, hown, hts⟩ (k_X12_hasTwice l D cA adr hJ a0 (0 : Int32) ha0 M v105_2658 M105_2659 hc105_2660) (cwV 1 hts gX12_count_X12_hasTwice rfl rfl rfl (by decide +kernel) ⟨Nat.le_of_ble_eq_true rfl, Nat.le_of_ble_eq_true rfl⟩) ⟨smPc_bl, smRv hE hP ha0 rfl (ci := 12) (q := (RX12, TX12, 54)) rfl, smPc_in [.ref (adr a0), .int (0 : Int32)] hE hP⟩ rfl rfl hl.1 rfl (lv_room (Nat.le_of_ble_eq_true rfl)) dX12_count_105 ⟨Nat.zero_le _, Nat.zero_le _⟩) hS (fun H locs hP hS => ?_)
    refine lv_if_ne (tgt := 119) hx hb dX12_count_108 (by decide) (fun c108_2661 => ?_) (fun c108_2661 => ?_)
    · rw [if_neg c108_2661] at h
      refine lv_iconst (v := (0 : Int32)) hx hb dX12_count_119 (by decide) ?_
      refine lv_goto (tgt := 124) hx hb dX12_count_120 (by decide) ?_
      cases h
      exact sm_iret hx hb hr hlocks hP hS dX12_count_124
    · rw [if_pos c108_2661] at h
      refine lv_aload_n hx hb dX12_count_111 rfl (lv_at hl 0 rfl) ?_
      refine lv_iconst (v := (1 : Int32)) hx hb dX12_count_112 (by decide) ?_
      obtain ⟨v113_2662, M113_2663, hc113_2664, h⟩ := sm_bd2 h
      refine sm_ci (va_runV (As := [.int (1 : Int32)]) (rest := []) ⟨hx, hb, hml, hown, hts⟩ (k_X12_hasTwice l D cA adr hJ a0 (1 : Int32) ha0 M105_2659 v113_2662 M113_2663 hc113_2664) (cwV 1 hts gX12_count_X12_hasTwice rfl rfl rfl (by decide +kernel) ⟨Nat.le_of_ble_eq_true rfl, Nat.le_of_ble_eq_true rfl⟩) ⟨smPc_bl, smRv hE hP ha0 rfl (ci := 12) (q := (RX12, TX12, 54)) rfl, smPc_in [.ref (adr a0), .int (1 : Int32)] hE hP⟩ rfl rfl hl.1 rfl (lv_room (Nat.le_of_ble_eq_true rfl)) dX12_count_113 ⟨Nat.zero_le _, Nat.zero_le _⟩) hS (fun H locs hP hS => ?_)
      refine lv_if_eq (tgt := 123) hx hb dX12_count_116 (by decide) (fun c116_2665 => ?_) (fun c116_2665 => ?_)
      · rw [if_pos c116_2665] at h
        refine lv_iconst (v := (1 : Int32)) hx hb dX12_count_123 (by decide) ?_
        cases h
        exact sm_iret hx hb hr hlocks hP hS dX12_count_124
      · rw [if_neg c116_2665] at h
        refine lv_iconst (v := (0 : Int32)) hx hb dX12_count_119 (by decide) ?_
        refine lv_goto (tgt := 124) hx hb dX12_count_120 (by decide) ?_
        cases h
        exact sm_iret hx hb hr hlocks hP hS dX12_count_124
  rw [if_neg c1_2657] at h
  by_cases c1_2666 : x1 = (8 : Int32)
  · rw [if_pos c1_2666] at h
    refine lv_tableIn (tgt := 125) hx hb dX12_count_1 (by rw [c1_2666]; decide) (by rw [c1_2666]; decide) (by rw [c1_2666]; rfl) (by decide) ?_
    refine lv_aload_n hx hb dX12_count_125 rfl (lv_at hl 0 rfl) ?_
    obtain ⟨M126_2668, hc126_2669, h⟩ := sm_bd h
    refine sm_cv (va_runV (As := []) (rest := []) ⟨hx, hb, hml, hown, hts⟩ (k_X12_findsRoots l D cA adr hJ a0 ha0 M M126_2668 hc126_2669) (cwV 0 hts gX12_count_X12_findsRoots rfl rfl rfl (by decide +kernel) ⟨Nat.le_of_ble_eq_true rfl, Nat.le_of_ble_eq_true rfl⟩) ⟨smPc_bl, smRv hE hP ha0 rfl (ci := 12) (q := (RX12, TX12, 54)) rfl, smPc_in [.ref (adr a0)] hE hP⟩ rfl rfl hl.1 rfl (lv_room (Nat.le_of_ble_eq_true rfl)) dX12_count_126 ⟨Nat.zero_le _, Nat.zero_le _⟩) hS (fun H locs hP hS => ?_)
    refine lv_aload_n hx hb dX12_count_129 rfl (lv_at hl 0 rfl) ?_
    refine sm_get (ci := 12) (C := RX12) (T := TX12) (N := 54) (v := .int (M126_2668 a0 46)) hx hb hts hin12 hown hE hP ha0 rfl rfl 46 (by decide) (hts (.fieldLink RX12 285 "OrderMoverModel" "roots" "I") (by decide +kernel)) (fun _ h9 => h9) rfl dX12_count_130 ?_
    cases h
    exact sm_iret hx hb hr hlocks hP hS dX12_count_133
  rw [if_neg c1_2666] at h
  by_cases c1_2670 : x1 = (9 : Int32)
  · rw [if_pos c1_2670] at h
    refine lv_tableIn (tgt := 134) hx hb dX12_count_1 (by rw [c1_2670]; decide) (by rw [c1_2670]; decide) (by rw [c1_2670]; rfl) (by decide) ?_
    refine lv_aload_n hx hb dX12_count_134 rfl (lv_at hl 0 rfl) ?_
    refine lv_iconst (v := (1 : Int32)) hx hb dX12_count_135 (by decide) ?_
    obtain ⟨v136_2671, hc136_2673, h⟩ := sm_bd h
    refine sm_ci (va_runV (As := [.int (1 : Int32)]) (rest := []) ⟨hx, hb, hml, hown, hts⟩ (k_X12_slotsOf l D cA adr hJ a0 (1 : Int32) ha0 M v136_2671 hc136_2673) (cwV 1 hts gX12_count_X12_slotsOf rfl rfl rfl (by decide +kernel) ⟨Nat.le_of_ble_eq_true rfl, Nat.le_of_ble_eq_true rfl⟩) ⟨smPc_bl, smRv hE hP ha0 rfl (ci := 12) (q := (RX12, TX12, 54)) rfl, smPc_in [.ref (adr a0), .int (1 : Int32)] hE hP⟩ rfl rfl hl.1 rfl (lv_room (Nat.le_of_ble_eq_true rfl)) dX12_count_136 ⟨Nat.zero_le _, Nat.zero_le _⟩) hS (fun H locs hP hS => ?_)
    cases h
    exact sm_iret hx hb hr hlocks hP hS dX12_count_139
  rw [if_neg c1_2670] at h
  by_cases c1_2674 : x1 = (10 : Int32)
  · rw [if_pos c1_2674] at h
    refine lv_tableIn (tgt := 140) hx hb dX12_count_1 (by rw [c1_2674]; decide) (by rw [c1_2674]; decide) (by rw [c1_2674]; rfl) (by decide) ?_
    refine lv_aload_n hx hb dX12_count_140 rfl (lv_at hl 0 rfl) ?_
    refine lv_iconst (v := (2 : Int32)) hx hb dX12_count_141 (by decide) ?_
    obtain ⟨v142_2675, hc142_2677, h⟩ := sm_bd h
    refine sm_ci (va_runV (As := [.int (2 : Int32)]) (rest := []) ⟨hx, hb, hml, hown, hts⟩ (k_X12_slotsOf l D cA adr hJ a0 (2 : Int32) ha0 M v142_2675 hc142_2677) (cwV 1 hts gX12_count_X12_slotsOf rfl rfl rfl (by decide +kernel) ⟨Nat.le_of_ble_eq_true rfl, Nat.le_of_ble_eq_true rfl⟩) ⟨smPc_bl, smRv hE hP ha0 rfl (ci := 12) (q := (RX12, TX12, 54)) rfl, smPc_in [.ref (adr a0), .int (2 : Int32)] hE hP⟩ rfl rfl hl.1 rfl (lv_room (Nat.le_of_ble_eq_true rfl)) dX12_count_142 ⟨Nat.zero_le _, Nat.zero_le _⟩) hS (fun H locs hP hS => ?_)
    cases h
    exact sm_iret hx hb hr hlocks hP hS dX12_count_145
  rw [if_neg c1_2674] at h
  have qc1_2643 := sm_ne (j := 0) c1_2643 (by decide)
  have qc1_2644 := sm_ne (j := 1) c1_2644 (by decide)
  have qc1_2645 := sm_ne (j := 2) c1_2645 (by decide)
  have qc1_2646 := sm_ne (j := 3) c1_2646 (by decide)
  have qc1_2650 := sm_ne (j := 4) c1_2650 (by decide)
  have qc1_2651 := sm_ne (j := 5) c1_2651 (by decide)
  have qc1_2652 := sm_ne (j := 6) c1_2652 (by decide)
  have qc1_2657 := sm_ne (j := 7) c1_2657 (by decide)
  have qc1_2666 := sm_ne (j := 8) c1_2666 (by decide)
  have qc1_2670 := sm_ne (j := 9) c1_2670 (by decide)
  have qc1_2674 := sm_ne (j := 10) c1_2674 (by decide)
  refine lv_tableOut (tgt := 146) hx hb dX12_count_1 (by omega) (by decide) ?_
  refine lv_iconst (v := (-1 : Int32)) hx hb dX12_count_146 (by decide) ?_
  cases h
  exact sm_iret hx hb hr hlocks hP hS dX12_count_147
