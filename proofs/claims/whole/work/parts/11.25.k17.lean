set_option maxHeartbeats 4000000 in
set_option maxRecDepth 100000 in
theorem k_X12_becomesField (l : Launch) (D : va_G) (cA : Nat → ClassId) (adr : Nat → Nat) (hJ : smJ 2 adr) (a0 : Nat) (x1 : Int32) (ha0 : smT 2 a0 12) (M : smM) (M1 : smM) (h : m_X12_becomesField a0 x1 M = some M1) : Met l yX12_becomesField wsX12_becomesField ({ frames := 1, cells := 0, slots := 0, locals := 23 }) (smPc D cA 2 adr M [.ref (adr a0), .int x1]) (smQv D cA 2 adr M1) 0 0 (smA 2 adr) := by
  refine Met.ofW (cc := cX12_becomesField) (maxL := 3) (ret := none) (by decide) rfl ?_
  intro p e s m args below meth c s₁ B hml hv
  obtain ⟨rfl, hE, hP⟩ := hv
  have hx := B.exec
  have hb := B.bytes
  have hr := B.returns
  have hts := atoms_spec (ws := wsX12_becomesField) B.pre
  have hown : s.vm.findClass RX12 = some m.cls := findClass_of_methodNamed B.named
  have hlocks := B.notSynchronized
  have hS : va_S (smA 2 adr) s.heap s.heap [] := va_S.rf
  have hP : smP D cA 2 adr M s.heap := hP
  have hl := lv_entry ([.ref (adr a0), .int x1]) (n := 3) (Nat.le_of_ble_eq_true rfl)
  rw [lg_entry_eq]
  generalize (lg_sl ([.ref (adr a0), .int x1]) ++ List.replicate (3 - (lg_sl ([.ref (adr a0), .int x1])).length) Slot.unset).toArray = ls at hl ⊢
  have hl : lv_has ls 3 [(0, .ref (adr a0)), (1, .int x1)] := hl
  unfold m_X12_becomesField at h
  have hin12 : ∀ w ∈ u_ws RX12 TX12 54, w ∈ wsX12_becomesField := by decide +kernel
  refine lv_aload_n hx hb dX12_becomesField_0 rfl (lv_at hl 0 rfl) ?_
  refine lv_iload_n hx hb dX12_becomesField_1 rfl (lv_at hl 1 rfl) ?_
  refine sm_put (ci := 12) (C := RX12) (T := TX12) (N := 54) (ty := .int) hx hb hts hin12 tyX12 tyX12_ok nmX12 hown hE hJ hP hS ha0 rfl rfl 0 (by decide) (hts (.fieldLink RX12 7 "OrderMoverModel" "p" "I") (by decide +kernel)) (fun _ h9 => h9) rfl (by decide +kernel) rfl rfl (Nat.le_of_ble_eq_true rfl) rfl dX12_becomesField_2 (fun H locs hP hS => ?_)
  obtain ⟨M2_2375, hM, h⟩ := sm_lt h
  rw [← hM] at hP; clear hM
  refine lv_iconst (v := (0 : Int32)) hx hb dX12_becomesField_5 (by decide) ?_
  refine lv_istore_n (lv' := [(2, .int (0 : Int32)), (0, .ref (adr a0)), (1, .int x1)]) hx hb dX12_becomesField_6 rfl hl (by decide) rfl (fun ls hl => ?_)
  refine sm_lp (b := fun rc q => m_X12_becomesField_b7 a0 rc q.1 q.2) (P := fun (q : Int32 × smM) H locs ls => smP D cA 2 adr q.2 H ∧ va_S (smA 2 adr) s.heap H locs ∧ lv_has ls 3 [(0, .ref (adr a0)), (2, .int q.1)]) (pc := 7) ?_ _ _ _ _ _ h ⟨hP, hS, lv_sub hl [1, 0] rfl⟩
  intro rc7_2378 ih7_2379 q H locs ls h hI
  obtain ⟨x2_7_2376, M7_2377⟩ := q
  obtain ⟨hP, hS, hl⟩ := hI
  have hP : smP D cA 2 adr M7_2377 H := hP
  have hl : lv_has ls 3 [(0, .ref (adr a0)), (2, .int x2_7_2376)] := hl
  have h : m_X12_becomesField_b7 a0 rc7_2378 x2_7_2376 M7_2377 = some _ := h
  unfold m_X12_becomesField_b7 at h
  refine lv_iload_n hx hb dX12_becomesField_7 rfl (lv_at hl 1 rfl) ?_
  refine lv_bipush (v := (18 : Int32)) hx hb dX12_becomesField_8 (by decide) ?_
  refine lv_icmp_ge (tgt := 36) hx hb dX12_becomesField_10 (by decide) (fun c10_2380 => ?_) (fun c10_2380 => ?_)
  · rw [if_pos c10_2380] at h
    refine lv_iconst (v := (0 : Int32)) hx hb dX12_becomesField_36 (by decide) ?_
    refine lv_istore_n (lv' := [(2, .int (0 : Int32)), (0, .ref (adr a0))]) hx hb dX12_becomesField_37 rfl hl (by decide) rfl (fun ls hl => ?_)
    refine sm_lp (b := fun rc q => m_X12_becomesField_b38 a0 rc7_2378 rc q.1 q.2) (P := fun (q : Int32 × smM) H locs ls => smP D cA 2 adr q.2 H ∧ va_S (smA 2 adr) s.heap H locs ∧ lv_has ls 3 [(0, .ref (adr a0)), (2, .int q.1)]) (pc := 38) ?_ _ _ _ _ _ h ⟨hP, hS, lv_sub hl [1, 0] rfl⟩
    intro rc38_2383 ih38_2384 q H locs ls h hI
    obtain ⟨x2_38_2381, M38_2382⟩ := q
    obtain ⟨hP, hS, hl⟩ := hI
    have hP : smP D cA 2 adr M38_2382 H := hP
    have hl : lv_has ls 3 [(0, .ref (adr a0)), (2, .int x2_38_2381)] := hl
    have h : m_X12_becomesField_b38 a0 rc7_2378 rc38_2383 x2_38_2381 M38_2382 = some _ := h
    unfold m_X12_becomesField_b38 at h
    refine lv_iload_n hx hb dX12_becomesField_38 rfl (lv_at hl 1 rfl) ?_
    refine lv_bipush (v := (32 : Int32)) hx hb dX12_becomesField_39 (by decide) ?_
    refine lv_icmp_ge (tgt := 67) hx hb dX12_becomesField_41 (by decide) (fun c41_2385 => ?_) (fun c41_2385 => ?_)
    · rw [if_pos c41_2385] at h
      refine lv_iconst (v := (0 : Int32)) hx hb dX12_becomesField_67 (by decide) ?_
      refine lv_istore_n (lv' := [(2, .int (0 : Int32)), (0, .ref (adr a0))]) hx hb dX12_becomesField_68 rfl hl (by decide) rfl (fun ls hl => ?_)
      refine sm_lp (b := fun rc q => m_X12_becomesField_b69 a0 rc7_2378 rc38_2383 rc q.1 q.2) (P := fun (q : Int32 × smM) H locs ls => smP D cA 2 adr q.2 H ∧ va_S (smA 2 adr) s.heap H locs ∧ lv_has ls 3 [(0, .ref (adr a0)), (2, .int q.1)]) (pc := 69) ?_ _ _ _ _ _ h ⟨hP, hS, lv_sub hl [1, 0] rfl⟩
      intro rc69_2388 ih69_2389 q H locs ls h hI
      obtain ⟨x2_69_2386, M69_2387⟩ := q
      obtain ⟨hP, hS, hl⟩ := hI
      have hP : smP D cA 2 adr M69_2387 H := hP
      have hl : lv_has ls 3 [(0, .ref (adr a0)), (2, .int x2_69_2386)] := hl
      have h : m_X12_becomesField_b69 a0 rc7_2378 rc38_2383 rc69_2388 x2_69_2386 M69_2387 = some _ := h
      unfold m_X12_becomesField_b69 at h
      refine lv_iload_n hx hb dX12_becomesField_69 rfl (lv_at hl 1 rfl) ?_
      refine lv_sipush (v := (360 : Int32)) hx hb dX12_becomesField_70 (by decide) ?_
      refine lv_icmp_ge (tgt := 99) hx hb dX12_becomesField_73 (by decide) (fun c73_2390 => ?_) (fun c73_2390 => ?_)
      · rw [if_pos c73_2390] at h
        refine lv_iconst (v := (0 : Int32)) hx hb dX12_becomesField_99 (by decide) ?_
        refine lv_istore_n (lv' := [(2, .int (0 : Int32)), (0, .ref (adr a0))]) hx hb dX12_becomesField_100 rfl hl (by decide) rfl (fun ls hl => ?_)
        refine sm_lp (b := fun rc q => m_X12_becomesField_b101 a0 rc7_2378 rc38_2383 rc69_2388 rc q.1 q.2) (P := fun (q : Int32 × smM) H locs ls => smP D cA 2 adr q.2 H ∧ va_S (smA 2 adr) s.heap H locs ∧ lv_has ls 3 [(0, .ref (adr a0)), (2, .int q.1)]) (pc := 101) ?_ _ _ _ _ _ h ⟨hP, hS, lv_sub hl [1, 0] rfl⟩
        intro rc101_2393 ih101_2394 q H locs ls h hI
        obtain ⟨x2_101_2391, M101_2392⟩ := q
        obtain ⟨hP, hS, hl⟩ := hI
        have hP : smP D cA 2 adr M101_2392 H := hP
        have hl : lv_has ls 3 [(0, .ref (adr a0)), (2, .int x2_101_2391)] := hl
        have h : m_X12_becomesField_b101 a0 rc7_2378 rc38_2383 rc69_2388 rc101_2393 x2_101_2391 M101_2392 = some _ := h
        unfold m_X12_becomesField_b101 at h
        refine lv_iload_n hx hb dX12_becomesField_101 rfl (lv_at hl 1 rfl) ?_
        refine lv_iconst (v := (4 : Int32)) hx hb dX12_becomesField_102 (by decide) ?_
        refine lv_icmp_ge (tgt := 127) hx hb dX12_becomesField_103 (by decide) (fun c103_2395 => ?_) (fun c103_2395 => ?_)
        · rw [if_pos c103_2395] at h
          cases h
          exact sm_vret hx hb hr hlocks hP hS dX12_becomesField_127
        · rw [if_neg c103_2395] at h
          refine lv_aload_n hx hb dX12_becomesField_106 rfl (lv_at hl 0 rfl) ?_
          refine sm_get (ci := 12) (C := RX12) (T := TX12) (N := 54) (v := .ref (adr (a0 + 2))) hx hb hts hin12 hown hE hP ha0 rfl rfl 6 (by decide) (hts (.fieldLink RX12 29 "OrderMoverModel" "kinds" "[I") (by decide +kernel)) (fun _ h9 => h9) rfl dX12_becomesField_107 ?_
          refine lv_iload_n hx hb dX12_becomesField_110 rfl (lv_at hl 1 rfl) ?_
          obtain ⟨c111_2396, h⟩ := sm_ck h
          refine sm_iald hx hb hE hP (t12_6 ha0) c111_2396 dX12_becomesField_111 ?_
          refine lv_iconst (v := (1 : Int32)) hx hb dX12_becomesField_112 (by decide) ?_
          refine lv_icmp_ne (tgt := 121) hx hb dX12_becomesField_113 (by decide) (fun c113_2397 => ?_) (fun c113_2397 => ?_)
          · rw [if_neg c113_2397] at h
            refine lv_iinc (v := (x2_101_2391 + (1 : Int32))) (lv' := [(2, .int (x2_101_2391 + (1 : Int32))), (0, .ref (adr a0))]) hx hb dX12_becomesField_121 hl (k := 1) rfl (congrArg (fun z => x2_101_2391 + z) (by decide)) (by decide) rfl (fun ls hl => ?_)
            refine lv_goto (tgt := 101) hx hb dX12_becomesField_124 (by decide) ?_
            exact ih101_2394 ((x2_101_2391 + (1 : Int32)), M101_2392) _ _ _ h ⟨hP, hS, lv_sub hl [1, 0] rfl⟩
          · rw [if_pos c113_2397] at h
            refine lv_aload_n hx hb dX12_becomesField_116 rfl (lv_at hl 0 rfl) ?_
            refine lv_iload_n hx hb dX12_becomesField_117 rfl (lv_at hl 1 rfl) ?_
            obtain ⟨M118_2399, hc118_2400, h⟩ := sm_bd h
            refine sm_cv (va_runV (As := [.int x2_101_2391]) (rest := []) ⟨hx, hb, hml, hown, hts⟩ (k_X12_dropsNoughts l D cA adr hJ a0 x2_101_2391 ha0 M101_2392 M118_2399 hc118_2400) (cwV 1 hts gX12_becomesField_X12_dropsNoughts rfl rfl rfl (by decide +kernel) ⟨Nat.le_of_ble_eq_true rfl, Nat.le_of_ble_eq_true rfl⟩) ⟨smPc_bl, smRv hE hP ha0 rfl (ci := 12) (q := (RX12, TX12, 54)) rfl, smPc_in [.ref (adr a0), .int x2_101_2391] hE hP⟩ rfl rfl hl.1 rfl (lv_room (Nat.le_of_ble_eq_true rfl)) dX12_becomesField_118 ⟨Nat.zero_le _, Nat.zero_le _⟩) hS (fun H locs hP hS => ?_)
            refine lv_iinc (v := (x2_101_2391 + (1 : Int32))) (lv' := [(2, .int (x2_101_2391 + (1 : Int32))), (0, .ref (adr a0))]) hx hb dX12_becomesField_121 hl (k := 1) rfl (congrArg (fun z => x2_101_2391 + z) (by decide)) (by decide) rfl (fun ls hl => ?_)
            refine lv_goto (tgt := 101) hx hb dX12_becomesField_124 (by decide) ?_
            exact ih101_2394 ((x2_101_2391 + (1 : Int32)), M118_2399) _ _ _ h ⟨hP, hS, lv_sub hl [1, 0] rfl⟩
      · rw [if_neg c73_2390] at h
        refine lv_aload_n hx hb dX12_becomesField_76 rfl (lv_at hl 0 rfl) ?_
        refine sm_get (ci := 12) (C := RX12) (T := TX12) (N := 54) (v := .ref (adr (a0 + 12))) hx hb hts hin12 hown hE hP ha0 rfl rfl 16 (by decide) (hts (.fieldLink RX12 59 "OrderMoverModel" "keptTails" "[I") (by decide +kernel)) (fun _ h9 => h9) rfl dX12_becomesField_77 ?_
        refine lv_iload_n hx hb dX12_becomesField_80 rfl (lv_at hl 1 rfl) ?_
        refine lv_aload_n hx hb dX12_becomesField_81 rfl (lv_at hl 0 rfl) ?_
        refine sm_get (ci := 12) (C := RX12) (T := TX12) (N := 54) (v := .ref (adr (a0 + 12))) hx hb hts hin12 hown hE hP ha0 rfl rfl 16 (by decide) (hts (.fieldLink RX12 59 "OrderMoverModel" "keptTails" "[I") (by decide +kernel)) (fun _ h9 => h9) rfl dX12_becomesField_82 ?_
        refine lv_iload_n hx hb dX12_becomesField_85 rfl (lv_at hl 1 rfl) ?_
        obtain ⟨c86_2401, h⟩ := sm_ck h
        refine sm_iald hx hb hE hP (t12_16 ha0) c86_2401 dX12_becomesField_86 ?_
        refine lv_aload_n hx hb dX12_becomesField_87 rfl (lv_at hl 0 rfl) ?_
        refine sm_get (ci := 12) (C := RX12) (T := TX12) (N := 54) (v := .int (M69_2387 a0 0)) hx hb hts hin12 hown hE hP ha0 rfl rfl 0 (by decide) (hts (.fieldLink RX12 7 "OrderMoverModel" "p" "I") (by decide +kernel)) (fun _ h9 => h9) rfl dX12_becomesField_88 ?_
        obtain ⟨c91_2402, h⟩ := sm_ck h
        refine lv_irem hx hb dX12_becomesField_91 c91_2402 ?_
        obtain ⟨c92_2403, h⟩ := sm_ck h
        refine sm_iast hx hb hE hJ hP hS (t12_16 ha0) c92_2403 dX12_becomesField_92 (fun H locs hP hS => ?_)
        obtain ⟨M92_2404, hM, h⟩ := sm_lt h
        rw [← hM] at hP; clear hM
        refine lv_iinc (v := (x2_69_2386 + (1 : Int32))) (lv' := [(2, .int (x2_69_2386 + (1 : Int32))), (0, .ref (adr a0))]) hx hb dX12_becomesField_93 hl (k := 1) rfl (congrArg (fun z => x2_69_2386 + z) (by decide)) (by decide) rfl (fun ls hl => ?_)
        refine lv_goto (tgt := 69) hx hb dX12_becomesField_96 (by decide) ?_
        exact ih69_2389 ((x2_69_2386 + (1 : Int32)), M92_2404) _ _ _ h ⟨hP, hS, lv_sub hl [1, 0] rfl⟩
    · rw [if_neg c41_2385] at h
      refine lv_aload_n hx hb dX12_becomesField_44 rfl (lv_at hl 0 rfl) ?_
      refine sm_get (ci := 12) (C := RX12) (T := TX12) (N := 54) (v := .ref (adr (a0 + 4))) hx hb hts hin12 hown hE hP ha0 rfl rfl 8 (by decide) (hts (.fieldLink RX12 35 "OrderMoverModel" "numbers" "[I") (by decide +kernel)) (fun _ h9 => h9) rfl dX12_becomesField_45 ?_
      refine lv_iload_n hx hb dX12_becomesField_48 rfl (lv_at hl 1 rfl) ?_
      refine lv_aload_n hx hb dX12_becomesField_49 rfl (lv_at hl 0 rfl) ?_
      refine sm_get (ci := 12) (C := RX12) (T := TX12) (N := 54) (v := .ref (adr (a0 + 4))) hx hb hts hin12 hown hE hP ha0 rfl rfl 8 (by decide) (hts (.fieldLink RX12 35 "OrderMoverModel" "numbers" "[I") (by decide +kernel)) (fun _ h9 => h9) rfl dX12_becomesField_50 ?_
      refine lv_iload_n hx hb dX12_becomesField_53 rfl (lv_at hl 1 rfl) ?_
      obtain ⟨c54_2405, h⟩ := sm_ck h
      refine sm_iald hx hb hE hP (t12_8 ha0) c54_2405 dX12_becomesField_54 ?_
      refine lv_aload_n hx hb dX12_becomesField_55 rfl (lv_at hl 0 rfl) ?_
      refine sm_get (ci := 12) (C := RX12) (T := TX12) (N := 54) (v := .int (M38_2382 a0 0)) hx hb hts hin12 hown hE hP ha0 rfl rfl 0 (by decide) (hts (.fieldLink RX12 7 "OrderMoverModel" "p" "I") (by decide +kernel)) (fun _ h9 => h9) rfl dX12_becomesField_56 ?_
      obtain ⟨c59_2406, h⟩ := sm_ck h
      refine lv_irem hx hb dX12_becomesField_59 c59_2406 ?_
      obtain ⟨c60_2407, h⟩ := sm_ck h
      refine sm_iast hx hb hE hJ hP hS (t12_8 ha0) c60_2407 dX12_becomesField_60 (fun H locs hP hS => ?_)
      obtain ⟨M60_2408, hM, h⟩ := sm_lt h
      rw [← hM] at hP; clear hM
      refine lv_iinc (v := (x2_38_2381 + (1 : Int32))) (lv' := [(2, .int (x2_38_2381 + (1 : Int32))), (0, .ref (adr a0))]) hx hb dX12_becomesField_61 hl (k := 1) rfl (congrArg (fun z => x2_38_2381 + z) (by decide)) (by decide) rfl (fun ls hl => ?_)
      refine lv_goto (tgt := 38) hx hb dX12_becomesField_64 (by decide) ?_
      exact ih38_2384 ((x2_38_2381 + (1 : Int32)), M60_2408) _ _ _ h ⟨hP, hS, lv_sub hl [1, 0] rfl⟩
  · rw [if_neg c10_2380] at h
    refine lv_aload_n hx hb dX12_becomesField_13 rfl (lv_at hl 0 rfl) ?_
    refine sm_get (ci := 12) (C := RX12) (T := TX12) (N := 54) (v := .ref (adr (a0 + 1))) hx hb hts hin12 hown hE hP ha0 rfl rfl 5 (by decide) (hts (.fieldLink RX12 25 "OrderMoverModel" "coefficients" "[I") (by decide +kernel)) (fun _ h9 => h9) rfl dX12_becomesField_14 ?_
    refine lv_iload_n hx hb dX12_becomesField_17 rfl (lv_at hl 1 rfl) ?_
    refine lv_aload_n hx hb dX12_becomesField_18 rfl (lv_at hl 0 rfl) ?_
    refine sm_get (ci := 12) (C := RX12) (T := TX12) (N := 54) (v := .ref (adr (a0 + 1))) hx hb hts hin12 hown hE hP ha0 rfl rfl 5 (by decide) (hts (.fieldLink RX12 25 "OrderMoverModel" "coefficients" "[I") (by decide +kernel)) (fun _ h9 => h9) rfl dX12_becomesField_19 ?_
    refine lv_iload_n hx hb dX12_becomesField_22 rfl (lv_at hl 1 rfl) ?_
    obtain ⟨c23_2409, h⟩ := sm_ck h
    refine sm_iald hx hb hE hP (t12_5 ha0) c23_2409 dX12_becomesField_23 ?_
    refine lv_aload_n hx hb dX12_becomesField_24 rfl (lv_at hl 0 rfl) ?_
    refine sm_get (ci := 12) (C := RX12) (T := TX12) (N := 54) (v := .int (M7_2377 a0 0)) hx hb hts hin12 hown hE hP ha0 rfl rfl 0 (by decide) (hts (.fieldLink RX12 7 "OrderMoverModel" "p" "I") (by decide +kernel)) (fun _ h9 => h9) rfl dX12_becomesField_25 ?_
    obtain ⟨c28_2410, h⟩ := sm_ck h
    refine lv_irem hx hb dX12_becomesField_28 c28_2410 ?_
    obtain ⟨c29_2411, h⟩ := sm_ck h
    refine sm_iast hx hb hE hJ hP hS (t12_5 ha0) c29_2411 dX12_becomesField_29 (fun H locs hP hS => ?_)
    obtain ⟨M29_2412, hM, h⟩ := sm_lt h
    rw [← hM] at hP; clear hM
    refine lv_iinc (v := (x2_7_2376 + (1 : Int32))) (lv' := [(2, .int (x2_7_2376 + (1 : Int32))), (0, .ref (adr a0))]) hx hb dX12_becomesField_30 hl (k := 1) rfl (congrArg (fun z => x2_7_2376 + z) (by decide)) (by decide) rfl (fun ls hl => ?_)
    refine lv_goto (tgt := 7) hx hb dX12_becomesField_33 (by decide) ?_
    exact ih7_2379 ((x2_7_2376 + (1 : Int32)), M29_2412) _ _ _ h ⟨hP, hS, lv_sub hl [1, 0] rfl⟩
set_option maxHeartbeats 4000000 in
set_option maxRecDepth 100000 in
theorem k_X12_formOfSlot (l : Launch) (D : va_G) (cA : Nat → ClassId) (adr : Nat → Nat) (hJ : smJ 2 adr) (a0 : Nat) (x1 : Int32) (ha0 : smT 2 a0 12) (M : smM) (M1 : smM) (h : m_X12_formOfSlot a0 x1 M = some M1) : Met l yX12_formOfSlot wsX12_formOfSlot ({ frames := 4, cells := 0, slots := 0, locals := 91 }) (smPc D cA 2 adr M [.ref (adr a0), .int x1]) (smQv D cA 2 adr M1) 0 0 (smA 2 adr) := by
  refine Met.ofW (cc := cX12_formOfSlot) (maxL := 4) (ret := none) (by decide) rfl ?_
  intro p e s m args below meth c s₁ B hml hv
  obtain ⟨rfl, hE, hP⟩ := hv
  have hx := B.exec
  have hb := B.bytes
  have hr := B.returns
  have hts := atoms_spec (ws := wsX12_formOfSlot) B.pre
  have hown : s.vm.findClass RX12 = some m.cls := findClass_of_methodNamed B.named
  have hlocks := B.notSynchronized
  have hS : va_S (smA 2 adr) s.heap s.heap [] := va_S.rf
  have hP : smP D cA 2 adr M s.heap := hP
  have hl := lv_entry ([.ref (adr a0), .int x1]) (n := 4) (Nat.le_of_ble_eq_true rfl)
  rw [lg_entry_eq]
  generalize (lg_sl ([.ref (adr a0), .int x1]) ++ List.replicate (4 - (lg_sl ([.ref (adr a0), .int x1])).length) Slot.unset).toArray = ls at hl ⊢
  have hl : lv_has ls 4 [(0, .ref (adr a0)), (1, .int x1)] := hl
  unfold m_X12_formOfSlot at h
  have hin12 : ∀ w ∈ u_ws RX12 TX12 54, w ∈ wsX12_formOfSlot := by decide +kernel
  refine lv_iconst (v := (0 : Int32)) hx hb dX12_formOfSlot_0 (by decide) ?_
  refine lv_istore_n (lv' := [(2, .int (0 : Int32)), (0, .ref (adr a0)), (1, .int x1)]) hx hb dX12_formOfSlot_1 rfl hl (by decide) rfl (fun ls hl => ?_)
  refine sm_lp (b := fun rc q => m_X12_formOfSlot_b2 a0 x1 rc q.1 q.2) (P := fun (q : Int32 × smM) H locs ls => smP D cA 2 adr q.2 H ∧ va_S (smA 2 adr) s.heap H locs ∧ lv_has ls 4 [(0, .ref (adr a0)), (1, .int x1), (2, .int q.1)]) (pc := 2) ?_ _ _ _ _ _ h ⟨hP, hS, lv_sub hl [1, 2, 0] rfl⟩
  intro rc2_2415 ih2_2416 q H locs ls h hI
  obtain ⟨x2_2_2413, M2_2414⟩ := q
  obtain ⟨hP, hS, hl⟩ := hI
  have hP : smP D cA 2 adr M2_2414 H := hP
  have hl : lv_has ls 4 [(0, .ref (adr a0)), (1, .int x1), (2, .int x2_2_2413)] := hl
  have h : m_X12_formOfSlot_b2 a0 x1 rc2_2415 x2_2_2413 M2_2414 = some _ := h
  unfold m_X12_formOfSlot_b2 at h
  refine lv_iload_n hx hb dX12_formOfSlot_2 rfl (lv_at hl 2 rfl) ?_
  refine lv_bipush (v := (9 : Int32)) hx hb dX12_formOfSlot_3 (by decide) ?_
  refine lv_icmp_ge (tgt := 21) hx hb dX12_formOfSlot_5 (by decide) (fun c5_2417 => ?_) (fun c5_2417 => ?_)
  · rw [if_pos c5_2417] at h
    refine lv_bipush (v := (8 : Int32)) hx hb dX12_formOfSlot_21 (by decide) ?_
    refine lv_iload_n hx hb dX12_formOfSlot_23 rfl (lv_at hl 1 rfl) ?_
    refine lv_imul hx hb dX12_formOfSlot_24 ?_
    refine lv_istore_n (lv' := [(2, .int ((8 : Int32) * x1)), (0, .ref (adr a0)), (1, .int x1)]) hx hb dX12_formOfSlot_25 rfl hl (by decide) rfl (fun ls hl => ?_)
    refine sm_lp (b := fun rc q => m_X12_formOfSlot_b26 a0 x1 rc2_2415 rc q.1 q.2) (P := fun (q : Int32 × smM) H locs ls => smP D cA 2 adr q.2 H ∧ va_S (smA 2 adr) s.heap H locs ∧ lv_has ls 4 [(0, .ref (adr a0)), (1, .int x1), (2, .int q.1)]) (pc := 26) ?_ _ _ _ _ _ h ⟨hP, hS, lv_sub hl [1, 2, 0] rfl⟩
    intro rc26_2420 ih26_2421 q H locs ls h hI
    obtain ⟨x2_26_2418, M26_2419⟩ := q
    obtain ⟨hP, hS, hl⟩ := hI
    have hP : smP D cA 2 adr M26_2419 H := hP
    have hl : lv_has ls 4 [(0, .ref (adr a0)), (1, .int x1), (2, .int x2_26_2418)] := hl
    have h : m_X12_formOfSlot_b26 a0 x1 rc2_2415 rc26_2420 x2_26_2418 M26_2419 = some _ := h
    unfold m_X12_formOfSlot_b26 at h
    refine lv_iload_n hx hb dX12_formOfSlot_26 rfl (lv_at hl 2 rfl) ?_
    refine lv_bipush (v := (8 : Int32)) hx hb dX12_formOfSlot_27 (by decide) ?_
    refine lv_iload_n hx hb dX12_formOfSlot_29 rfl (lv_at hl 1 rfl) ?_
    refine lv_imul hx hb dX12_formOfSlot_30 ?_
    refine lv_aload_n hx hb dX12_formOfSlot_31 rfl (lv_at hl 0 rfl) ?_
    refine sm_get (ci := 12) (C := RX12) (T := TX12) (N := 54) (v := .ref (adr (a0 + 3))) hx hb hts hin12 hown hE hP ha0 rfl rfl 7 (by decide) (hts (.fieldLink RX12 32 "OrderMoverModel" "many" "[I") (by decide +kernel)) (fun _ h9 => h9) rfl dX12_formOfSlot_32 ?_
    refine lv_iload_n hx hb dX12_formOfSlot_35 rfl (lv_at hl 1 rfl) ?_
    obtain ⟨c36_2422, h⟩ := sm_ck h
    refine sm_iald hx hb hE hP (t12_7 ha0) c36_2422 dX12_formOfSlot_36 ?_
    refine lv_iadd hx hb dX12_formOfSlot_37 ?_
    refine lv_icmp_ge (tgt := 108) hx hb dX12_formOfSlot_38 (by decide) (fun c38_2423 => ?_) (fun c38_2423 => ?_)
    · rw [if_pos c38_2423] at h
      refine lv_iconst (v := (0 : Int32)) hx hb dX12_formOfSlot_108 (by decide) ?_
      refine lv_istore_n (lv' := [(2, .int (0 : Int32)), (0, .ref (adr a0)), (1, .int x1)]) hx hb dX12_formOfSlot_109 rfl hl (by decide) rfl (fun ls hl => ?_)
      refine sm_lp (b := fun rc q => m_X12_formOfSlot_b110 a0 rc2_2415 rc26_2420 rc q.1 q.2) (P := fun (q : Int32 × smM) H locs ls => smP D cA 2 adr q.2 H ∧ va_S (smA 2 adr) s.heap H locs ∧ lv_has ls 4 [(0, .ref (adr a0)), (2, .int q.1)]) (pc := 110) ?_ _ _ _ _ _ h ⟨hP, hS, lv_sub hl [1, 0] rfl⟩
      intro rc110_2426 ih110_2427 q H locs ls h hI
      obtain ⟨x2_110_2424, M110_2425⟩ := q
      obtain ⟨hP, hS, hl⟩ := hI
      have hP : smP D cA 2 adr M110_2425 H := hP
      have hl : lv_has ls 4 [(0, .ref (adr a0)), (2, .int x2_110_2424)] := hl
      have h : m_X12_formOfSlot_b110 a0 rc2_2415 rc26_2420 rc110_2426 x2_110_2424 M110_2425 = some _ := h
      unfold m_X12_formOfSlot_b110 at h
      refine lv_iload_n hx hb dX12_formOfSlot_110 rfl (lv_at hl 1 rfl) ?_
      refine lv_bipush (v := (9 : Int32)) hx hb dX12_formOfSlot_111 (by decide) ?_
      refine lv_icmp_ge (tgt := 134) hx hb dX12_formOfSlot_113 (by decide) (fun c113_2428 => ?_) (fun c113_2428 => ?_)
      · rw [if_pos c113_2428] at h
        cases h
        exact sm_vret hx hb hr hlocks hP hS dX12_formOfSlot_134
      · rw [if_neg c113_2428] at h
        refine lv_aload_n hx hb dX12_formOfSlot_116 rfl (lv_at hl 0 rfl) ?_
        refine sm_get (ci := 12) (C := RX12) (T := TX12) (N := 54) (v := .ref (adr (a0 + 20))) hx hb hts hin12 hown hE hP ha0 rfl rfl 24 (by decide) (hts (.fieldLink RX12 84 "OrderMoverModel" "form" "[I") (by decide +kernel)) (fun _ h9 => h9) rfl dX12_formOfSlot_117 ?_
        refine lv_iload_n hx hb dX12_formOfSlot_120 rfl (lv_at hl 1 rfl) ?_
        refine lv_aload_n hx hb dX12_formOfSlot_121 rfl (lv_at hl 0 rfl) ?_
        refine sm_get (ci := 12) (C := RX12) (T := TX12) (N := 54) (v := .ref (adr (a0 + 40))) hx hb hts hin12 hown hE hP ha0 rfl rfl 53 (by decide) (hts (.fieldLink RX12 144 "OrderMoverModel" "sums" "[I") (by decide +kernel)) (fun _ h9 => h9) rfl dX12_formOfSlot_122 ?_
        refine lv_iload_n hx hb dX12_formOfSlot_125 rfl (lv_at hl 1 rfl) ?_
        obtain ⟨c126_2429, h⟩ := sm_ck h
        refine sm_iald hx hb hE hP (t12_53 ha0) c126_2429 dX12_formOfSlot_126 ?_
        obtain ⟨c127_2430, h⟩ := sm_ck h
        refine sm_iast hx hb hE hJ hP hS (t12_24 ha0) c127_2430 dX12_formOfSlot_127 (fun H locs hP hS => ?_)
        obtain ⟨M127_2431, hM, h⟩ := sm_lt h
        rw [← hM] at hP; clear hM
        refine lv_iinc (v := (x2_110_2424 + (1 : Int32))) (lv' := [(2, .int (x2_110_2424 + (1 : Int32))), (0, .ref (adr a0))]) hx hb dX12_formOfSlot_128 hl (k := 1) rfl (congrArg (fun z => x2_110_2424 + z) (by decide)) (by decide) rfl (fun ls hl => ?_)
        refine lv_goto (tgt := 110) hx hb dX12_formOfSlot_131 (by decide) ?_
        exact ih110_2427 ((x2_110_2424 + (1 : Int32)), M127_2431) _ _ _ h ⟨hP, hS, lv_sub hl [1, 0] rfl⟩
    · rw [if_neg c38_2423] at h
      refine lv_aload_n hx hb dX12_formOfSlot_41 rfl (lv_at hl 0 rfl) ?_
      refine lv_aload_n hx hb dX12_formOfSlot_42 rfl (lv_at hl 0 rfl) ?_
      refine sm_get (ci := 12) (C := RX12) (T := TX12) (N := 54) (v := .ref (adr (a0 + 5))) hx hb hts hin12 hown hE hP ha0 rfl rfl 9 (by decide) (hts (.fieldLink RX12 38 "OrderMoverModel" "powersI" "[I") (by decide +kernel)) (fun _ h9 => h9) rfl dX12_formOfSlot_43 ?_
      refine lv_iload_n hx hb dX12_formOfSlot_46 rfl (lv_at hl 2 rfl) ?_
      obtain ⟨c47_2432, h⟩ := sm_ck h
      refine sm_iald hx hb hE hP (t12_9 ha0) c47_2432 dX12_formOfSlot_47 ?_
      refine lv_aload_n hx hb dX12_formOfSlot_48 rfl (lv_at hl 0 rfl) ?_
      refine sm_get (ci := 12) (C := RX12) (T := TX12) (N := 54) (v := .ref (adr (a0 + 6))) hx hb hts hin12 hown hE hP ha0 rfl rfl 10 (by decide) (hts (.fieldLink RX12 41 "OrderMoverModel" "powersJ" "[I") (by decide +kernel)) (fun _ h9 => h9) rfl dX12_formOfSlot_49 ?_
      refine lv_iload_n hx hb dX12_formOfSlot_52 rfl (lv_at hl 2 rfl) ?_
      obtain ⟨c53_2433, h⟩ := sm_ck h
      refine sm_iald hx hb hE hP (t12_10 ha0) c53_2433 dX12_formOfSlot_53 ?_
      obtain ⟨M54_2435, hc54_2436, h⟩ := sm_bd h
      refine sm_cv (va_runV (As := [.int (M26_2419 (a0 + 5) (x2_26_2418).toNatClampNeg), .int (M26_2419 (a0 + 6) (x2_26_2418).toNatClampNeg)]) (rest := []) ⟨hx, hb, hml, hown, hts⟩ (k_X12_formOf l D cA adr hJ a0 (M26_2419 (a0 + 5) (x2_26_2418).toNatClampNeg) (M26_2419 (a0 + 6) (x2_26_2418).toNatClampNeg) ha0 M26_2419 M54_2435 hc54_2436) (cwV 2 hts gX12_formOfSlot_X12_formOf rfl rfl rfl (by decide +kernel) ⟨Nat.le_of_ble_eq_true rfl, Nat.le_of_ble_eq_true rfl⟩) ⟨smPc_bl, smRv hE hP ha0 rfl (ci := 12) (q := (RX12, TX12, 54)) rfl, smPc_in [.ref (adr a0), .int (M26_2419 (a0 + 5) (x2_26_2418).toNatClampNeg), .int (M26_2419 (a0 + 6) (x2_26_2418).toNatClampNeg)] hE hP⟩ rfl rfl hl.1 rfl (lv_room (Nat.le_of_ble_eq_true rfl)) dX12_formOfSlot_54 ⟨Nat.zero_le _, Nat.zero_le _⟩) hS (fun H locs hP hS => ?_)
      refine lv_iconst (v := (0 : Int32)) hx hb dX12_formOfSlot_57 (by decide) ?_
      refine lv_istore_n (lv' := [(3, .int (0 : Int32)), (0, .ref (adr a0)), (1, .int x1), (2, .int x2_26_2418)]) hx hb dX12_formOfSlot_58 rfl hl (by decide) rfl (fun ls hl => ?_)
      refine sm_lp (b := fun rc q => m_X12_formOfSlot_b59 a0 x1 x2_26_2418 rc2_2415 rc26_2420 rc q.1 q.2) (P := fun (q : Int32 × smM) H locs ls => smP D cA 2 adr q.2 H ∧ va_S (smA 2 adr) s.heap H locs ∧ lv_has ls 4 [(0, .ref (adr a0)), (1, .int x1), (2, .int x2_26_2418), (3, .int q.1)]) (pc := 59) ?_ _ _ _ _ _ h ⟨hP, hS, lv_sub hl [1, 2, 3, 0] rfl⟩
      intro rc59_2439 ih59_2440 q H locs ls h hI
      obtain ⟨x3_59_2437, M59_2438⟩ := q
      obtain ⟨hP, hS, hl⟩ := hI
      have hP : smP D cA 2 adr M59_2438 H := hP
      have hl : lv_has ls 4 [(0, .ref (adr a0)), (1, .int x1), (2, .int x2_26_2418), (3, .int x3_59_2437)] := hl
      have h : m_X12_formOfSlot_b59 a0 x1 x2_26_2418 rc2_2415 rc26_2420 rc59_2439 x3_59_2437 M59_2438 = some _ := h
      unfold m_X12_formOfSlot_b59 at h
      refine lv_iload_n hx hb dX12_formOfSlot_59 rfl (lv_at hl 3 rfl) ?_
      refine lv_bipush (v := (9 : Int32)) hx hb dX12_formOfSlot_60 (by decide) ?_
      refine lv_icmp_ge (tgt := 102) hx hb dX12_formOfSlot_62 (by decide) (fun c62_2441 => ?_) (fun c62_2441 => ?_)
      · rw [if_pos c62_2441] at h
        refine lv_iinc (v := (x2_26_2418 + (1 : Int32))) (lv' := [(2, .int (x2_26_2418 + (1 : Int32))), (0, .ref (adr a0)), (1, .int x1), (3, .int x3_59_2437)]) hx hb dX12_formOfSlot_102 hl (k := 2) rfl (congrArg (fun z => x2_26_2418 + z) (by decide)) (by decide) rfl (fun ls hl => ?_)
        refine lv_goto (tgt := 26) hx hb dX12_formOfSlot_105 (by decide) ?_
        exact ih26_2421 ((x2_26_2418 + (1 : Int32)), M59_2438) _ _ _ h ⟨hP, hS, lv_sub hl [1, 2, 0] rfl⟩
      · rw [if_neg c62_2441] at h
        refine lv_aload_n hx hb dX12_formOfSlot_65 rfl (lv_at hl 0 rfl) ?_
        refine sm_get (ci := 12) (C := RX12) (T := TX12) (N := 54) (v := .ref (adr (a0 + 40))) hx hb hts hin12 hown hE hP ha0 rfl rfl 53 (by decide) (hts (.fieldLink RX12 144 "OrderMoverModel" "sums" "[I") (by decide +kernel)) (fun _ h9 => h9) rfl dX12_formOfSlot_66 ?_
        refine lv_iload_n hx hb dX12_formOfSlot_69 rfl (lv_at hl 3 rfl) ?_
        refine lv_aload_n hx hb dX12_formOfSlot_70 rfl (lv_at hl 0 rfl) ?_
        refine sm_get (ci := 12) (C := RX12) (T := TX12) (N := 54) (v := .ref (adr (a0 + 40))) hx hb hts hin12 hown hE hP ha0 rfl rfl 53 (by decide) (hts (.fieldLink RX12 144 "OrderMoverModel" "sums" "[I") (by decide +kernel)) (fun _ h9 => h9) rfl dX12_formOfSlot_71 ?_
        refine lv_iload_n hx hb dX12_formOfSlot_74 rfl (lv_at hl 3 rfl) ?_
        obtain ⟨c75_2442, h⟩ := sm_ck h
        refine sm_iald hx hb hE hP (t12_53 ha0) c75_2442 dX12_formOfSlot_75 ?_
        refine lv_aload_n hx hb dX12_formOfSlot_76 rfl (lv_at hl 0 rfl) ?_
        refine sm_get (ci := 12) (C := RX12) (T := TX12) (N := 54) (v := .ref (adr (a0 + 4))) hx hb hts hin12 hown hE hP ha0 rfl rfl 8 (by decide) (hts (.fieldLink RX12 35 "OrderMoverModel" "numbers" "[I") (by decide +kernel)) (fun _ h9 => h9) rfl dX12_formOfSlot_77 ?_
        refine lv_iload_n hx hb dX12_formOfSlot_80 rfl (lv_at hl 2 rfl) ?_
        obtain ⟨c81_2443, h⟩ := sm_ck h
        refine sm_iald hx hb hE hP (t12_8 ha0) c81_2443 dX12_formOfSlot_81 ?_
        refine lv_aload_n hx hb dX12_formOfSlot_82 rfl (lv_at hl 0 rfl) ?_
        refine sm_get (ci := 12) (C := RX12) (T := TX12) (N := 54) (v := .ref (adr (a0 + 20))) hx hb hts hin12 hown hE hP ha0 rfl rfl 24 (by decide) (hts (.fieldLink RX12 84 "OrderMoverModel" "form" "[I") (by decide +kernel)) (fun _ h9 => h9) rfl dX12_formOfSlot_83 ?_
        refine lv_iload_n hx hb dX12_formOfSlot_86 rfl (lv_at hl 3 rfl) ?_
        obtain ⟨c87_2444, h⟩ := sm_ck h
        refine sm_iald hx hb hE hP (t12_24 ha0) c87_2444 dX12_formOfSlot_87 ?_
        refine lv_imul hx hb dX12_formOfSlot_88 ?_
        refine lv_iadd hx hb dX12_formOfSlot_89 ?_
        refine lv_aload_n hx hb dX12_formOfSlot_90 rfl (lv_at hl 0 rfl) ?_
        refine sm_get (ci := 12) (C := RX12) (T := TX12) (N := 54) (v := .int (M59_2438 a0 0)) hx hb hts hin12 hown hE hP ha0 rfl rfl 0 (by decide) (hts (.fieldLink RX12 7 "OrderMoverModel" "p" "I") (by decide +kernel)) (fun _ h9 => h9) rfl dX12_formOfSlot_91 ?_
        obtain ⟨c94_2445, h⟩ := sm_ck h
        refine lv_irem hx hb dX12_formOfSlot_94 c94_2445 ?_
        obtain ⟨c95_2446, h⟩ := sm_ck h
        refine sm_iast hx hb hE hJ hP hS (t12_53 ha0) c95_2446 dX12_formOfSlot_95 (fun H locs hP hS => ?_)
        obtain ⟨M95_2447, hM, h⟩ := sm_lt h
        rw [← hM] at hP; clear hM
        refine lv_iinc (v := (x3_59_2437 + (1 : Int32))) (lv' := [(3, .int (x3_59_2437 + (1 : Int32))), (0, .ref (adr a0)), (1, .int x1), (2, .int x2_26_2418)]) hx hb dX12_formOfSlot_96 hl (k := 3) rfl (congrArg (fun z => x3_59_2437 + z) (by decide)) (by decide) rfl (fun ls hl => ?_)
        refine lv_goto (tgt := 59) hx hb dX12_formOfSlot_99 (by decide) ?_
        exact ih59_2440 ((x3_59_2437 + (1 : Int32)), M95_2447) _ _ _ h ⟨hP, hS, lv_sub hl [1, 2, 3, 0] rfl⟩
  · rw [if_neg c5_2417] at h
    refine lv_aload_n hx hb dX12_formOfSlot_8 rfl (lv_at hl 0 rfl) ?_
    refine sm_get (ci := 12) (C := RX12) (T := TX12) (N := 54) (v := .ref (adr (a0 + 40))) hx hb hts hin12 hown hE hP ha0 rfl rfl 53 (by decide) (hts (.fieldLink RX12 144 "OrderMoverModel" "sums" "[I") (by decide +kernel)) (fun _ h9 => h9) rfl dX12_formOfSlot_9 ?_
    refine lv_iload_n hx hb dX12_formOfSlot_12 rfl (lv_at hl 2 rfl) ?_
    refine lv_iconst (v := (0 : Int32)) hx hb dX12_formOfSlot_13 (by decide) ?_
    obtain ⟨c14_2448, h⟩ := sm_ck h
    refine sm_iast hx hb hE hJ hP hS (t12_53 ha0) c14_2448 dX12_formOfSlot_14 (fun H locs hP hS => ?_)
    obtain ⟨M14_2449, hM, h⟩ := sm_lt h
    rw [← hM] at hP; clear hM
    refine lv_iinc (v := (x2_2_2413 + (1 : Int32))) (lv' := [(2, .int (x2_2_2413 + (1 : Int32))), (0, .ref (adr a0)), (1, .int x1)]) hx hb dX12_formOfSlot_15 hl (k := 2) rfl (congrArg (fun z => x2_2_2413 + z) (by decide)) (by decide) rfl (fun ls hl => ?_)
    refine lv_goto (tgt := 2) hx hb dX12_formOfSlot_18 (by decide) ?_
    exact ih2_2416 ((x2_2_2413 + (1 : Int32)), M14_2449) _ _ _ h ⟨hP, hS, lv_sub hl [1, 2, 0] rfl⟩
set_option maxHeartbeats 4000000 in
set_option maxRecDepth 100000 in
theorem k_X12_belongs (l : Launch) (D : va_G) (cA : Nat → ClassId) (adr : Nat → Nat) (hJ : smJ 2 adr) (a0 : Nat) (x1 : Int32) (ha0 : smT 2 a0 12) (M : smM) (v1 : Int32) (M1 : smM) (h : m_X12_belongs a0 x1 M = some (v1, M1)) : Met l yX12_belongs wsX12_belongs ({ frames := 5, cells := 0, slots := 0, locals := 114 }) (smPc D cA 2 adr M [.ref (adr a0), .int x1]) (smQi D cA 2 adr M1 v1) 0 0 (smA 2 adr) := by
  refine Met.ofW (cc := cX12_belongs) (maxL := 5) (ret := (some .int)) (by decide) rfl ?_
  intro p e s m args below meth c s₁ B hml hv
  obtain ⟨rfl, hE, hP⟩ := hv
  have hx := B.exec
  have hb := B.bytes
  have hr := B.returns
  have hts := atoms_spec (ws := wsX12_belongs) B.pre
  have hown : s.vm.findClass RX12 = some m.cls := findClass_of_methodNamed B.named
  have hlocks := B.notSynchronized
  have hS : va_S (smA 2 adr) s.heap s.heap [] := va_S.rf
  have hP : smP D cA 2 adr M s.heap := hP
  have hl := lv_entry ([.ref (adr a0), .int x1]) (n := 5) (Nat.le_of_ble_eq_true rfl)
  rw [lg_entry_eq]
  generalize (lg_sl ([.ref (adr a0), .int x1]) ++ List.replicate (5 - (lg_sl ([.ref (adr a0), .int x1])).length) Slot.unset).toArray = ls at hl ⊢
  have hl : lv_has ls 5 [(0, .ref (adr a0)), (1, .int x1)] := hl
  unfold m_X12_belongs at h
  have hin12 : ∀ w ∈ u_ws RX12 TX12 54, w ∈ wsX12_belongs := by decide +kernel
  refine lv_iload_n hx hb dX12_belongs_0 rfl (lv_at hl 1 rfl) ?_
  obtain ⟨v1_2450, hc1_2452, h⟩ := sm_bd h
  refine sm_ci (va_runS (As := [.int x1]) (rest := []) ⟨hx, hb, hml, hown, hts⟩ (k_X12_isSlot l D cA adr hJ x1  M v1_2450 hc1_2452) (va_cwS 1 hts gX12_belongs_X12_isSlot rfl rfl rfl (by decide +kernel) ⟨Nat.le_of_ble_eq_true rfl, Nat.le_of_ble_eq_true rfl⟩) ⟨smPc_bl, smPc_in [.int x1] hE hP⟩ rfl rfl hl.1 rfl (lv_room (Nat.le_of_ble_eq_true rfl)) dX12_belongs_1 ⟨Nat.zero_le _, Nat.zero_le _⟩) hS (fun H locs hP hS => ?_)
  refine lv_if_ne (tgt := 9) hx hb dX12_belongs_4 (by decide) (fun c4_2453 => ?_) (fun c4_2453 => ?_)
  · rw [if_neg c4_2453] at h
    refine lv_aload_n hx hb dX12_belongs_9 rfl (lv_at hl 0 rfl) ?_
    refine lv_iload_n hx hb dX12_belongs_10 rfl (lv_at hl 1 rfl) ?_
    refine lv_iconst (v := (1 : Int32)) hx hb dX12_belongs_11 (by decide) ?_
    obtain ⟨v12_2454, hc12_2456, h⟩ := sm_bd h
    refine sm_ci (va_runV (As := [.int x1, .int (1 : Int32)]) (rest := []) ⟨hx, hb, hml, hown, hts⟩ (k_X12_lacks l D cA adr hJ a0 x1 (1 : Int32) ha0 M v12_2454 hc12_2456) (cwV 2 hts gX12_belongs_X12_lacks rfl rfl rfl (by decide +kernel) ⟨Nat.le_of_ble_eq_true rfl, Nat.le_of_ble_eq_true rfl⟩) ⟨smPc_bl, smRv hE hP ha0 rfl (ci := 12) (q := (RX12, TX12, 54)) rfl, smPc_in [.ref (adr a0), .int x1, .int (1 : Int32)] hE hP⟩ rfl rfl hl.1 rfl (lv_room (Nat.le_of_ble_eq_true rfl)) dX12_belongs_12 ⟨Nat.zero_le _, Nat.zero_le _⟩) hS (fun H locs hP hS => ?_)
    refine lv_istore_n (lv' := [(2, .int v12_2454), (0, .ref (adr a0)), (1, .int x1)]) hx hb dX12_belongs_15 rfl hl (by decide) rfl (fun ls hl => ?_)
    refine lv_iload_n hx hb dX12_belongs_16 rfl (lv_at hl 0 rfl) ?_
    refine lv_if_ge (tgt := 22) hx hb dX12_belongs_17 (by decide) (fun c17_2457 => ?_) (fun c17_2457 => ?_)
    · rw [if_pos c17_2457] at h
      refine lv_aload_n hx hb dX12_belongs_22 rfl (lv_at hl 1 rfl) ?_
      obtain ⟨M23_2459, hc23_2460, h⟩ := sm_bd h
      refine sm_cv (va_runV (As := []) (rest := []) ⟨hx, hb, hml, hown, hts⟩ (k_X12_laysForms l D cA adr hJ a0 ha0 M M23_2459 hc23_2460) (cwV 0 hts gX12_belongs_X12_laysForms rfl rfl rfl (by decide +kernel) ⟨Nat.le_of_ble_eq_true rfl, Nat.le_of_ble_eq_true rfl⟩) ⟨smPc_bl, smRv hE hP ha0 rfl (ci := 12) (q := (RX12, TX12, 54)) rfl, smPc_in [.ref (adr a0)] hE hP⟩ rfl rfl hl.1 rfl (lv_room (Nat.le_of_ble_eq_true rfl)) dX12_belongs_23 ⟨Nat.zero_le _, Nat.zero_le _⟩) hS (fun H locs hP hS => ?_)
      refine lv_aload_n hx hb dX12_belongs_26 rfl (lv_at hl 1 rfl) ?_
      refine lv_iload_n hx hb dX12_belongs_27 rfl (lv_at hl 2 rfl) ?_
      obtain ⟨M28_2462, hc28_2463, h⟩ := sm_bd h
      refine sm_cv (va_runV (As := [.int x1]) (rest := []) ⟨hx, hb, hml, hown, hts⟩ (k_X12_formOfSlot l D cA adr hJ a0 x1 ha0 M23_2459 M28_2462 hc28_2463) (cwV 1 hts gX12_belongs_X12_formOfSlot rfl rfl rfl (by decide +kernel) ⟨Nat.le_of_ble_eq_true rfl, Nat.le_of_ble_eq_true rfl⟩) ⟨smPc_bl, smRv hE hP ha0 rfl (ci := 12) (q := (RX12, TX12, 54)) rfl, smPc_in [.ref (adr a0), .int x1] hE hP⟩ rfl rfl hl.1 rfl (lv_room (Nat.le_of_ble_eq_true rfl)) dX12_belongs_28 ⟨Nat.zero_le _, Nat.zero_le _⟩) hS (fun H locs hP hS => ?_)
      refine lv_iconst (v := (0 : Int32)) hx hb dX12_belongs_31 (by decide) ?_
      refine lv_istore_n (lv' := [(3, .int (0 : Int32)), (2, .int v12_2454), (0, .ref (adr a0)), (1, .int x1)]) hx hb dX12_belongs_32 rfl hl (by decide) rfl (fun ls hl => ?_)
      refine lv_iconst (v := (0 : Int32)) hx hb dX12_belongs_33 (by decide) ?_
      refine lv_istore (lv' := [(4, .int (0 : Int32)), (3, .int (0 : Int32)), (2, .int v12_2454), (0, .ref (adr a0)), (1, .int x1)]) hx hb dX12_belongs_34 hl (by decide) rfl (fun ls hl => ?_)
      refine sm_lp (b := fun rc q => m_X12_belongs_b36 a0 M28_2462 rc q.1 q.2) (P := fun (q : Int32 × Int32) H locs ls => smP D cA 2 adr M28_2462 H ∧ va_S (smA 2 adr) s.heap H locs ∧ lv_has ls 5 [(0, .ref (adr a0)), (3, .int q.1), (4, .int q.2)]) (pc := 36) ?_ _ _ _ _ _ h ⟨hP, hS, lv_sub hl [3, 1, 0] rfl⟩
      intro rc36_2466 ih36_2467 q H locs ls h hI
      obtain ⟨x3_36_2464, x4_36_2465⟩ := q
      obtain ⟨hP, hS, hl⟩ := hI
      have hP : smP D cA 2 adr M28_2462 H := hP
      have hl : lv_has ls 5 [(0, .ref (adr a0)), (3, .int x3_36_2464), (4, .int x4_36_2465)] := hl
      have h : m_X12_belongs_b36 a0 M28_2462 rc36_2466 x3_36_2464 x4_36_2465 = some _ := h
      unfold m_X12_belongs_b36 at h
      refine lv_iload hx hb dX12_belongs_36 (lv_at hl 2 rfl) ?_
      refine lv_bipush (v := (9 : Int32)) hx hb dX12_belongs_38 (by decide) ?_
      refine lv_icmp_ge (tgt := 59) hx hb dX12_belongs_40 (by decide) (fun c40_2468 => ?_) (fun c40_2468 => ?_)
      · rw [if_pos c40_2468] at h
        refine lv_iload_n hx hb dX12_belongs_59 rfl (lv_at hl 1 rfl) ?_
        refine lv_if_ne (tgt := 67) hx hb dX12_belongs_60 (by decide) (fun c60_2469 => ?_) (fun c60_2469 => ?_)
        · rw [if_neg c60_2469] at h
          refine lv_iconst (v := (0 : Int32)) hx hb dX12_belongs_67 (by decide) ?_
          cases h
          exact sm_iret hx hb hr hlocks hP hS dX12_belongs_68
        · rw [if_pos c60_2469] at h
          refine lv_iconst (v := (1 : Int32)) hx hb dX12_belongs_63 (by decide) ?_
          refine lv_goto (tgt := 68) hx hb dX12_belongs_64 (by decide) ?_
          cases h
          exact sm_iret hx hb hr hlocks hP hS dX12_belongs_68
      · rw [if_neg c40_2468] at h
        refine lv_iload_n hx hb dX12_belongs_43 rfl (lv_at hl 1 rfl) ?_
        refine lv_aload_n hx hb dX12_belongs_44 rfl (lv_at hl 0 rfl) ?_
        refine sm_get (ci := 12) (C := RX12) (T := TX12) (N := 54) (v := .ref (adr (a0 + 20))) hx hb hts hin12 hown hE hP ha0 rfl rfl 24 (by decide) (hts (.fieldLink RX12 84 "OrderMoverModel" "form" "[I") (by decide +kernel)) (fun _ h9 => h9) rfl dX12_belongs_45 ?_
        refine lv_iload hx hb dX12_belongs_48 (lv_at hl 2 rfl) ?_
        obtain ⟨c50_2470, h⟩ := sm_ck h
        refine sm_iald hx hb hE hP (t12_24 ha0) c50_2470 dX12_belongs_50 ?_
        refine lv_iadd hx hb dX12_belongs_51 ?_
        refine lv_istore_n (lv' := [(3, .int (x3_36_2464 + (M28_2462 (a0 + 20) (x4_36_2465).toNatClampNeg))), (0, .ref (adr a0)), (4, .int x4_36_2465)]) hx hb dX12_belongs_52 rfl hl (by decide) rfl (fun ls hl => ?_)
        refine lv_iinc (v := (x4_36_2465 + (1 : Int32))) (lv' := [(4, .int (x4_36_2465 + (1 : Int32))), (3, .int (x3_36_2464 + (M28_2462 (a0 + 20) (x4_36_2465).toNatClampNeg))), (0, .ref (adr a0))]) hx hb dX12_belongs_53 hl (k := 2) rfl (congrArg (fun z => x4_36_2465 + z) (by decide)) (by decide) rfl (fun ls hl => ?_)
        refine lv_goto (tgt := 36) hx hb dX12_belongs_56 (by decide) ?_
        exact ih36_2467 ((x3_36_2464 + (M28_2462 (a0 + 20) (x4_36_2465).toNatClampNeg)), (x4_36_2465 + (1 : Int32))) _ _ _ h ⟨hP, hS, lv_sub hl [2, 1, 0] rfl⟩
    · rw [if_neg c17_2457] at h
      refine lv_iload_n hx hb dX12_belongs_20 rfl (lv_at hl 0 rfl) ?_
      cases h
      exact sm_iret hx hb hr hlocks hP hS dX12_belongs_21
  · rw [if_pos c4_2453] at h
    refine lv_iconst (v := (-1 : Int32)) hx hb dX12_belongs_7 (by decide) ?_
    cases h
    exact sm_iret hx hb hr hlocks hP hS dX12_belongs_8
set_option maxHeartbeats 4000000 in
set_option maxRecDepth 100000 in
theorem k_X12_slotsOf (l : Launch) (D : va_G) (cA : Nat → ClassId) (adr : Nat → Nat) (hJ : smJ 2 adr) (a0 : Nat) (x1 : Int32) (ha0 : smT 2 a0 12) (M : smM) (v1 : Int32) (h : m_X12_slotsOf a0 x1 M = some v1) : Met l yX12_slotsOf wsX12_slotsOf ({ frames := 0, cells := 0, slots := 0, locals := 0 }) (smPc D cA 2 adr M [.ref (adr a0), .int x1]) (smQi D cA 2 adr M v1) 0 0 (smA 2 adr) := by
  refine Met.ofW (cc := cX12_slotsOf) (maxL := 4) (ret := (some .int)) (by decide) rfl ?_
  intro p e s m args below meth c s₁ B hml hv
  obtain ⟨rfl, hE, hP⟩ := hv
  have hx := B.exec
  have hb := B.bytes
  have hr := B.returns
  have hts := atoms_spec (ws := wsX12_slotsOf) B.pre
  have hown : s.vm.findClass RX12 = some m.cls := findClass_of_methodNamed B.named
  have hlocks := B.notSynchronized
  have hS : va_S (smA 2 adr) s.heap s.heap [] := va_S.rf
  have hP : smP D cA 2 adr M s.heap := hP
  have hl := lv_entry ([.ref (adr a0), .int x1]) (n := 4) (Nat.le_of_ble_eq_true rfl)
  rw [lg_entry_eq]
  generalize (lg_sl ([.ref (adr a0), .int x1]) ++ List.replicate (4 - (lg_sl ([.ref (adr a0), .int x1])).length) Slot.unset).toArray = ls at hl ⊢
  have hl : lv_has ls 4 [(0, .ref (adr a0)), (1, .int x1)] := hl
  unfold m_X12_slotsOf at h
  have hin12 : ∀ w ∈ u_ws RX12 TX12 54, w ∈ wsX12_slotsOf := by decide +kernel
  refine lv_iconst (v := (0 : Int32)) hx hb dX12_slotsOf_0 (by decide) ?_
  refine lv_istore_n (lv' := [(2, .int (0 : Int32)), (0, .ref (adr a0)), (1, .int x1)]) hx hb dX12_slotsOf_1 rfl hl (by decide) rfl (fun ls hl => ?_)
  refine lv_iconst (v := (0 : Int32)) hx hb dX12_slotsOf_2 (by decide) ?_
  refine lv_istore_n (lv' := [(3, .int (0 : Int32)), (2, .int (0 : Int32)), (0, .ref (adr a0)), (1, .int x1)]) hx hb dX12_slotsOf_3 rfl hl (by decide) rfl (fun ls hl => ?_)
  refine sm_lp (b := fun rc q => m_X12_slotsOf_b4 a0 x1 M rc q.1 q.2) (P := fun (q : Int32 × Int32) H locs ls => smP D cA 2 adr M H ∧ va_S (smA 2 adr) s.heap H locs ∧ lv_has ls 4 [(0, .ref (adr a0)), (1, .int x1), (2, .int q.1), (3, .int q.2)]) (pc := 4) ?_ _ _ _ _ _ h ⟨hP, hS, lv_sub hl [2, 3, 1, 0] rfl⟩
  intro rc4_2473 ih4_2474 q H locs ls h hI
  obtain ⟨x2_4_2471, x3_4_2472⟩ := q
  obtain ⟨hP, hS, hl⟩ := hI
  have hP : smP D cA 2 adr M H := hP
  have hl : lv_has ls 4 [(0, .ref (adr a0)), (1, .int x1), (2, .int x2_4_2471), (3, .int x3_4_2472)] := hl
  have h : m_X12_slotsOf_b4 a0 x1 M rc4_2473 x2_4_2471 x3_4_2472 = some _ := h
  unfold m_X12_slotsOf_b4 at h
  refine lv_iload_n hx hb dX12_slotsOf_4 rfl (lv_at hl 3 rfl) ?_
  refine lv_iconst (v := (4 : Int32)) hx hb dX12_slotsOf_5 (by decide) ?_
  refine lv_icmp_ge (tgt := 33) hx hb dX12_slotsOf_6 (by decide) (fun c6_2475 => ?_) (fun c6_2475 => ?_)
  · rw [if_pos c6_2475] at h
    refine lv_iload_n hx hb dX12_slotsOf_33 rfl (lv_at hl 2 rfl) ?_
    cases h
    exact sm_iret hx hb hr hlocks hP hS dX12_slotsOf_34
  · rw [if_neg c6_2475] at h
    refine lv_iload_n hx hb dX12_slotsOf_9 rfl (lv_at hl 2 rfl) ?_
    refine lv_aload_n hx hb dX12_slotsOf_10 rfl (lv_at hl 0 rfl) ?_
    refine sm_get (ci := 12) (C := RX12) (T := TX12) (N := 54) (v := .ref (adr (a0 + 2))) hx hb hts hin12 hown hE hP ha0 rfl rfl 6 (by decide) (hts (.fieldLink RX12 29 "OrderMoverModel" "kinds" "[I") (by decide +kernel)) (fun _ h9 => h9) rfl dX12_slotsOf_11 ?_
    refine lv_iload_n hx hb dX12_slotsOf_14 rfl (lv_at hl 3 rfl) ?_
    obtain ⟨c15_2476, h⟩ := sm_ck h
    refine sm_iald hx hb hE hP (t12_6 ha0) c15_2476 dX12_slotsOf_15 ?_
    refine lv_iload_n hx hb dX12_slotsOf_16 rfl (lv_at hl 1 rfl) ?_
    refine lv_icmp_ne (tgt := 24) hx hb dX12_slotsOf_17 (by decide) (fun c17_2477 => ?_) (fun c17_2477 => ?_)
    · rw [if_neg c17_2477] at h
      refine lv_iconst (v := (0 : Int32)) hx hb dX12_slotsOf_24 (by decide) ?_
      refine lv_iadd hx hb dX12_slotsOf_25 ?_
      refine lv_istore_n (lv' := [(2, .int (x2_4_2471 + (0 : Int32))), (0, .ref (adr a0)), (1, .int x1), (3, .int x3_4_2472)]) hx hb dX12_slotsOf_26 rfl hl (by decide) rfl (fun ls hl => ?_)
      refine lv_iinc (v := (x3_4_2472 + (1 : Int32))) (lv' := [(3, .int (x3_4_2472 + (1 : Int32))), (2, .int (x2_4_2471 + (0 : Int32))), (0, .ref (adr a0)), (1, .int x1)]) hx hb dX12_slotsOf_27 hl (k := 3) rfl (congrArg (fun z => x3_4_2472 + z) (by decide)) (by decide) rfl (fun ls hl => ?_)
      refine lv_goto (tgt := 4) hx hb dX12_slotsOf_30 (by decide) ?_
      exact ih4_2474 ((x2_4_2471 + (0 : Int32)), (x3_4_2472 + (1 : Int32))) _ _ _ h ⟨hP, hS, lv_sub hl [2, 3, 1, 0] rfl⟩
    · rw [if_pos c17_2477] at h
      refine lv_iconst (v := (1 : Int32)) hx hb dX12_slotsOf_20 (by decide) ?_
      refine lv_goto (tgt := 25) hx hb dX12_slotsOf_21 (by decide) ?_
      refine lv_iadd hx hb dX12_slotsOf_25 ?_
      refine lv_istore_n (lv' := [(2, .int (x2_4_2471 + (1 : Int32))), (0, .ref (adr a0)), (1, .int x1), (3, .int x3_4_2472)]) hx hb dX12_slotsOf_26 rfl hl (by decide) rfl (fun ls hl => ?_)
      refine lv_iinc (v := (x3_4_2472 + (1 : Int32))) (lv' := [(3, .int (x3_4_2472 + (1 : Int32))), (2, .int (x2_4_2471 + (1 : Int32))), (0, .ref (adr a0)), (1, .int x1)]) hx hb dX12_slotsOf_27 hl (k := 3) rfl (congrArg (fun z => x3_4_2472 + z) (by decide)) (by decide) rfl (fun ls hl => ?_)
      refine lv_goto (tgt := 4) hx hb dX12_slotsOf_30 (by decide) ?_
      exact ih4_2474 ((x2_4_2471 + (1 : Int32)), (x3_4_2472 + (1 : Int32))) _ _ _ h ⟨hP, hS, lv_sub hl [2, 3, 1, 0] rfl⟩
set_option maxHeartbeats 4000000 in
set_option maxRecDepth 100000 in
theorem k_X12_isPlain (l : Launch) (D : va_G) (cA : Nat → ClassId) (adr : Nat → Nat) (hJ : smJ 2 adr) (a0 : Nat) (ha0 : smT 2 a0 12) (M : smM) (v1 : Int32) (M1 : smM) (h : m_X12_isPlain a0 M = some (v1, M1)) : Met l yX12_isPlain wsX12_isPlain ({ frames := 5, cells := 0, slots := 0, locals := 118 }) (smPc D cA 2 adr M [.ref (adr a0)]) (smQi D cA 2 adr M1 v1) 0 0 (smA 2 adr) := by
  refine Met.ofW (cc := cX12_isPlain) (maxL := 1) (ret := (some .boolean)) (by decide) rfl ?_
  intro p e s m args below meth c s₁ B hml hv
  obtain ⟨rfl, hE, hP⟩ := hv
  have hx := B.exec
  have hb := B.bytes
  have hr := B.returns
  have hts := atoms_spec (ws := wsX12_isPlain) B.pre
  have hown : s.vm.findClass RX12 = some m.cls := findClass_of_methodNamed B.named
  have hlocks := B.notSynchronized
  have hS : va_S (smA 2 adr) s.heap s.heap [] := va_S.rf
  have hP : smP D cA 2 adr M s.heap := hP
  have hl := lv_entry ([.ref (adr a0)]) (n := 1) (Nat.le_of_ble_eq_true rfl)
  rw [lg_entry_eq]
  generalize (lg_sl ([.ref (adr a0)]) ++ List.replicate (1 - (lg_sl ([.ref (adr a0)])).length) Slot.unset).toArray = ls at hl ⊢
  have hl : lv_has ls 1 [(0, .ref (adr a0))] := hl
  unfold m_X12_isPlain at h
  have hin12 : ∀ w ∈ u_ws RX12 TX12 54, w ∈ wsX12_isPlain := by decide +kernel
  refine lv_aload_n hx hb dX12_isPlain_0 rfl (lv_at hl 0 rfl) ?_
  refine lv_iconst (v := (0 : Int32)) hx hb dX12_isPlain_1 (by decide) ?_
  refine lv_aload_n hx hb dX12_isPlain_2 rfl (lv_at hl 0 rfl) ?_
  refine sm_get (ci := 12) (C := RX12) (T := TX12) (N := 54) (v := .int (M a0 3)) hx hb hts hin12 hown hE hP ha0 rfl rfl 3 (by decide) (hts (.fieldLink RX12 19 "OrderMoverModel" "u" "I") (by decide +kernel)) (fun _ h9 => h9) rfl dX12_isPlain_3 ?_
  refine lv_aload_n hx hb dX12_isPlain_6 rfl (lv_at hl 0 rfl) ?_
  refine sm_get (ci := 12) (C := RX12) (T := TX12) (N := 54) (v := .int (M a0 4)) hx hb hts hin12 hown hE hP ha0 rfl rfl 4 (by decide) (hts (.fieldLink RX12 22 "OrderMoverModel" "v" "I") (by decide +kernel)) (fun _ h9 => h9) rfl dX12_isPlain_7 ?_
  obtain ⟨M10_2479, hc10_2480, h⟩ := sm_bd h
  refine sm_cv (va_runV (As := [.int (0 : Int32), .int (M a0 3), .int (M a0 4)]) (rest := []) ⟨hx, hb, hml, hown, hts⟩ (k_X12_walks l D cA adr hJ a0 (0 : Int32) (M a0 3) (M a0 4) ha0 M M10_2479 hc10_2480) (cwV 3 hts gX12_isPlain_X12_walks rfl rfl rfl (by decide +kernel) ⟨Nat.le_of_ble_eq_true rfl, Nat.le_of_ble_eq_true rfl⟩) ⟨smPc_bl, smRv hE hP ha0 rfl (ci := 12) (q := (RX12, TX12, 54)) rfl, smPc_in [.ref (adr a0), .int (0 : Int32), .int (M a0 3), .int (M a0 4)] hE hP⟩ rfl rfl hl.1 rfl (lv_room (Nat.le_of_ble_eq_true rfl)) dX12_isPlain_10 ⟨Nat.zero_le _, Nat.zero_le _⟩) hS (fun H locs hP hS => ?_)
  refine lv_aload_n hx hb dX12_isPlain_13 rfl (lv_at hl 0 rfl) ?_
  refine sm_get (ci := 12) (C := RX12) (T := TX12) (N := 54) (v := .int (M10_2479 a0 34)) hx hb hts hin12 hown hE hP ha0 rfl rfl 34 (by decide) (hts (.fieldLink RX12 230 "OrderMoverModel" "members" "I") (by decide +kernel)) (fun _ h9 => h9) rfl dX12_isPlain_14 ?_
  refine lv_iconst (v := (2 : Int32)) hx hb dX12_isPlain_17 (by decide) ?_
  refine lv_icmp_ne (tgt := 59) hx hb dX12_isPlain_18 (by decide) (fun c18_2481 => ?_) (fun c18_2481 => ?_)
  · rw [if_neg c18_2481] at h
    refine lv_iconst (v := (0 : Int32)) hx hb dX12_isPlain_59 (by decide) ?_
    cases h
    exact sm_zret (by first | rfl | decide) hx hb hr hlocks hP hS dX12_isPlain_60
  · rw [if_pos c18_2481] at h
    refine lv_aload_n hx hb dX12_isPlain_21 rfl (lv_at hl 0 rfl) ?_
    refine sm_get (ci := 12) (C := RX12) (T := TX12) (N := 54) (v := .ref (adr (a0 + 22))) hx hb hts hin12 hown hE hP ha0 rfl rfl 30 (by decide) (hts (.fieldLink RX12 90 "OrderMoverModel" "stairI" "[I") (by decide +kernel)) (fun _ h9 => h9) rfl dX12_isPlain_22 ?_
    refine lv_aload_n hx hb dX12_isPlain_25 rfl (lv_at hl 0 rfl) ?_
    refine sm_get (ci := 12) (C := RX12) (T := TX12) (N := 54) (v := .int (M10_2479 a0 29)) hx hb hts hin12 hown hE hP ha0 rfl rfl 29 (by decide) (hts (.fieldLink RX12 220 "OrderMoverModel" "stairs" "I") (by decide +kernel)) (fun _ h9 => h9) rfl dX12_isPlain_26 ?_
    refine lv_iconst (v := (1 : Int32)) hx hb dX12_isPlain_29 (by decide) ?_
    refine lv_isub hx hb dX12_isPlain_30 ?_
    obtain ⟨c31_2482, h⟩ := sm_ck h
    refine sm_iald hx hb hE hP (t12_30 ha0) c31_2482 dX12_isPlain_31 ?_
    refine lv_if_ne (tgt := 59) hx hb dX12_isPlain_32 (by decide) (fun c32_2483 => ?_) (fun c32_2483 => ?_)
    · rw [if_neg c32_2483] at h
      refine lv_iconst (v := (0 : Int32)) hx hb dX12_isPlain_59 (by decide) ?_
      cases h
      exact sm_zret (by first | rfl | decide) hx hb hr hlocks hP hS dX12_isPlain_60
    · rw [if_pos c32_2483] at h
      refine lv_aload_n hx hb dX12_isPlain_35 rfl (lv_at hl 0 rfl) ?_
      refine sm_get (ci := 12) (C := RX12) (T := TX12) (N := 54) (v := .ref (adr (a0 + 23))) hx hb hts hin12 hown hE hP ha0 rfl rfl 31 (by decide) (hts (.fieldLink RX12 93 "OrderMoverModel" "stairJ" "[I") (by decide +kernel)) (fun _ h9 => h9) rfl dX12_isPlain_36 ?_
      refine lv_aload_n hx hb dX12_isPlain_39 rfl (lv_at hl 0 rfl) ?_
      refine sm_get (ci := 12) (C := RX12) (T := TX12) (N := 54) (v := .int (M10_2479 a0 29)) hx hb hts hin12 hown hE hP ha0 rfl rfl 29 (by decide) (hts (.fieldLink RX12 220 "OrderMoverModel" "stairs" "I") (by decide +kernel)) (fun _ h9 => h9) rfl dX12_isPlain_40 ?_
      refine lv_iconst (v := (1 : Int32)) hx hb dX12_isPlain_43 (by decide) ?_
      refine lv_isub hx hb dX12_isPlain_44 ?_
      obtain ⟨c45_2484, h⟩ := sm_ck h
      refine sm_iald hx hb hE hP (t12_31 ha0) c45_2484 dX12_isPlain_45 ?_
      refine lv_aload_n hx hb dX12_isPlain_46 rfl (lv_at hl 0 rfl) ?_
      refine sm_get (ci := 12) (C := RX12) (T := TX12) (N := 54) (v := .int (M10_2479 a0 29)) hx hb hts hin12 hown hE hP ha0 rfl rfl 29 (by decide) (hts (.fieldLink RX12 220 "OrderMoverModel" "stairs" "I") (by decide +kernel)) (fun _ h9 => h9) rfl dX12_isPlain_47 ?_
      refine lv_iconst (v := (1 : Int32)) hx hb dX12_isPlain_50 (by decide) ?_
      refine lv_isub hx hb dX12_isPlain_51 ?_
      refine lv_icmp_ne (tgt := 59) hx hb dX12_isPlain_52 (by decide) (fun c52_2485 => ?_) (fun c52_2485 => ?_)
      · rw [if_neg c52_2485] at h
        refine lv_iconst (v := (0 : Int32)) hx hb dX12_isPlain_59 (by decide) ?_
        cases h
        exact sm_zret (by first | rfl | decide) hx hb hr hlocks hP hS dX12_isPlain_60
      · rw [if_pos c52_2485] at h
        refine lv_iconst (v := (1 : Int32)) hx hb dX12_isPlain_55 (by decide) ?_
        refine lv_goto (tgt := 60) hx hb dX12_isPlain_56 (by decide) ?_
        cases h
        exact sm_zret (by first | rfl | decide) hx hb hr hlocks hP hS dX12_isPlain_60
set_option maxHeartbeats 4000000 in
set_option maxRecDepth 100000 in
theorem k_X12_findsLeast (l : Launch) (D : va_G) (cA : Nat → ClassId) (adr : Nat → Nat) (hJ : smJ 2 adr) (a0 : Nat) (x1 : Int32) (ha0 : smT 2 a0 12) (M : smM) (M1 : smM) (h : m_X12_findsLeast a0 x1 M = some M1) : Met l yX12_findsLeast wsX12_findsLeast ({ frames := 5, cells := 0, slots := 0, locals := 118 }) (smPc D cA 2 adr M [.ref (adr a0), .int x1]) (smQv D cA 2 adr M1) 0 0 (smA 2 adr) := by
  refine Met.ofW (cc := cX12_findsLeast) (maxL := 3) (ret := none) (by decide) rfl ?_
  intro p e s m args below meth c s₁ B hml hv
  obtain ⟨rfl, hE, hP⟩ := hv
  have hx := B.exec
  have hb := B.bytes
  have hr := B.returns
  have hts := atoms_spec (ws := wsX12_findsLeast) B.pre
  have hown : s.vm.findClass RX12 = some m.cls := findClass_of_methodNamed B.named
  have hlocks := B.notSynchronized
  have hS : va_S (smA 2 adr) s.heap s.heap [] := va_S.rf
  have hP : smP D cA 2 adr M s.heap := hP
  have hl := lv_entry ([.ref (adr a0), .int x1]) (n := 3) (Nat.le_of_ble_eq_true rfl)
  rw [lg_entry_eq]
  generalize (lg_sl ([.ref (adr a0), .int x1]) ++ List.replicate (3 - (lg_sl ([.ref (adr a0), .int x1])).length) Slot.unset).toArray = ls at hl ⊢
  have hl : lv_has ls 3 [(0, .ref (adr a0)), (1, .int x1)] := hl
  unfold m_X12_findsLeast at h
  have hin12 : ∀ w ∈ u_ws RX12 TX12 54, w ∈ wsX12_findsLeast := by decide +kernel
  refine lv_aload_n hx hb dX12_findsLeast_0 rfl (lv_at hl 0 rfl) ?_
  refine lv_iload_n hx hb dX12_findsLeast_1 rfl (lv_at hl 1 rfl) ?_
  refine sm_jn (x := M1) (T := fun (q : Int32) => m_X12_findsLeast_j10 a0 x1 a0 M q) (P := fun (q : Int32) H locs ls => smP D cA 2 adr M H ∧ va_S (smA 2 adr) s.heap H locs ∧ lv_has ls 3 [(0, .ref (adr a0)), (1, .int x1)]) (st := fun (q : Int32) => [.int q, .ref (adr a0)]) (pc := 10) ?_ (fun J10_2487 => ?_)
  · intro q H locs ls h hI
    obtain ⟨s0_10_2486, hq⟩ : ∃ y, y = q := ⟨_, rfl⟩; subst hq
    obtain ⟨hP, hS, hl⟩ := hI
    have hP : smP D cA 2 adr M H := hP
    have hl : lv_has ls 3 [(0, .ref (adr a0)), (1, .int x1)] := hl
    have h : m_X12_findsLeast_j10 a0 x1 a0 M s0_10_2486 = some _ := h
    unfold m_X12_findsLeast_j10 at h
    refine W.eq (g2 := F0 m 10 ls [.int s0_10_2486, .ref (adr a0)]) rfl ?_
    refine lv_iconst (v := (1 : Int32)) hx hb dX12_findsLeast_10 (by decide) ?_
    refine lv_iconst (v := (1 : Int32)) hx hb dX12_findsLeast_11 (by decide) ?_
    obtain ⟨M12_2489, hc12_2490, h⟩ := sm_bd h
    refine sm_cv (va_runV (As := [.int s0_10_2486, .int (1 : Int32), .int (1 : Int32)]) (rest := []) ⟨hx, hb, hml, hown, hts⟩ (k_X12_walks l D cA adr hJ a0 s0_10_2486 (1 : Int32) (1 : Int32) ha0 M M12_2489 hc12_2490) (cwV 3 hts gX12_findsLeast_X12_walks rfl rfl rfl (by decide +kernel) ⟨Nat.le_of_ble_eq_true rfl, Nat.le_of_ble_eq_true rfl⟩) ⟨smPc_bl, smRv hE hP ha0 rfl (ci := 12) (q := (RX12, TX12, 54)) rfl, smPc_in [.ref (adr a0), .int s0_10_2486, .int (1 : Int32), .int (1 : Int32)] hE hP⟩ rfl rfl hl.1 rfl (lv_room (Nat.le_of_ble_eq_true rfl)) dX12_findsLeast_12 ⟨Nat.zero_le _, Nat.zero_le _⟩) hS (fun H locs hP hS => ?_)
    refine lv_aload_n hx hb dX12_findsLeast_15 rfl (lv_at hl 0 rfl) ?_
    refine lv_iload_n hx hb dX12_findsLeast_16 rfl (lv_at hl 1 rfl) ?_
    refine sm_jn (x := M1) (T := fun (q : Int32) => m_X12_findsLeast_j35 a0 a0 M12_2489 q) (P := fun (q : Int32) H locs ls => smP D cA 2 adr M12_2489 H ∧ va_S (smA 2 adr) s.heap H locs ∧ lv_has ls 3 [(0, .ref (adr a0))]) (st := fun (q : Int32) => [.int q, .ref (adr a0)]) (pc := 35) ?_ (fun J35_2492 => ?_)
    · intro q H locs ls h hI
      obtain ⟨s0_35_2491, hq⟩ : ∃ y, y = q := ⟨_, rfl⟩; subst hq
      obtain ⟨hP, hS, hl⟩ := hI
      have hP : smP D cA 2 adr M12_2489 H := hP
      have hl : lv_has ls 3 [(0, .ref (adr a0))] := hl
      have h : m_X12_findsLeast_j35 a0 a0 M12_2489 s0_35_2491 = some _ := h
      unfold m_X12_findsLeast_j35 at h
      refine W.eq (g2 := F0 m 35 ls [.int s0_35_2491, .ref (adr a0)]) rfl ?_
      refine sm_put (ci := 12) (C := RX12) (T := TX12) (N := 54) (ty := .int) hx hb hts hin12 tyX12 tyX12_ok nmX12 hown hE hJ hP hS ha0 rfl rfl 43 (by decide) (hts (.fieldLink RX12 275 "OrderMoverModel" "degree" "I") (by decide +kernel)) (fun _ h9 => h9) rfl (by decide +kernel) rfl rfl (Nat.le_of_ble_eq_true rfl) rfl dX12_findsLeast_35 (fun H locs hP hS => ?_)
      obtain ⟨M35_2493, hM, h⟩ := sm_lt h
      rw [← hM] at hP; clear hM
      refine lv_iconst (v := (0 : Int32)) hx hb dX12_findsLeast_38 (by decide) ?_
      refine lv_istore_n (lv' := [(2, .int (0 : Int32)), (0, .ref (adr a0))]) hx hb dX12_findsLeast_39 rfl hl (by decide) rfl (fun ls hl => ?_)
      refine sm_lp (b := fun rc q => m_X12_findsLeast_b40 a0 rc q.1 q.2) (P := fun (q : Int32 × smM) H locs ls => smP D cA 2 adr q.2 H ∧ va_S (smA 2 adr) s.heap H locs ∧ lv_has ls 3 [(0, .ref (adr a0)), (2, .int q.1)]) (pc := 40) ?_ _ _ _ _ _ h ⟨hP, hS, lv_sub hl [1, 0] rfl⟩
      intro rc40_2496 ih40_2497 q H locs ls h hI
      obtain ⟨x2_40_2494, M40_2495⟩ := q
      obtain ⟨hP, hS, hl⟩ := hI
      have hP : smP D cA 2 adr M40_2495 H := hP
      have hl : lv_has ls 3 [(0, .ref (adr a0)), (2, .int x2_40_2494)] := hl
      have h : m_X12_findsLeast_b40 a0 rc40_2496 x2_40_2494 M40_2495 = some _ := h
      unfold m_X12_findsLeast_b40 at h
      refine lv_iload_n hx hb dX12_findsLeast_40 rfl (lv_at hl 1 rfl) ?_
      refine lv_aload_n hx hb dX12_findsLeast_41 rfl (lv_at hl 0 rfl) ?_
      refine sm_get (ci := 12) (C := RX12) (T := TX12) (N := 54) (v := .int (M40_2495 a0 43)) hx hb hts hin12 hown hE hP ha0 rfl rfl 43 (by decide) (hts (.fieldLink RX12 275 "OrderMoverModel" "degree" "I") (by decide +kernel)) (fun _ h9 => h9) rfl dX12_findsLeast_42 ?_
      refine lv_icmp_ge (tgt := 66) hx hb dX12_findsLeast_45 (by decide) (fun c45_2498 => ?_) (fun c45_2498 => ?_)
      · rw [if_pos c45_2498] at h
        refine lv_aload_n hx hb dX12_findsLeast_66 rfl (lv_at hl 0 rfl) ?_
        refine sm_get (ci := 12) (C := RX12) (T := TX12) (N := 54) (v := .ref (adr (a0 + 32))) hx hb hts hin12 hown hE hP ha0 rfl rfl 42 (by decide) (hts (.fieldLink RX12 120 "OrderMoverModel" "least" "[I") (by decide +kernel)) (fun _ h9 => h9) rfl dX12_findsLeast_67 ?_
        refine lv_aload_n hx hb dX12_findsLeast_70 rfl (lv_at hl 0 rfl) ?_
        refine sm_get (ci := 12) (C := RX12) (T := TX12) (N := 54) (v := .int (M40_2495 a0 43)) hx hb hts hin12 hown hE hP ha0 rfl rfl 43 (by decide) (hts (.fieldLink RX12 275 "OrderMoverModel" "degree" "I") (by decide +kernel)) (fun _ h9 => h9) rfl dX12_findsLeast_71 ?_
        refine lv_iconst (v := (1 : Int32)) hx hb dX12_findsLeast_74 (by decide) ?_
        obtain ⟨c75_2499, h⟩ := sm_ck h
        refine sm_iast hx hb hE hJ hP hS (t12_42 ha0) c75_2499 dX12_findsLeast_75 (fun H locs hP hS => ?_)
        obtain ⟨M75_2500, hM, h⟩ := sm_lt h
        rw [← hM] at hP; clear hM
        cases h
        exact sm_vret hx hb hr hlocks hP hS dX12_findsLeast_76
      · rw [if_neg c45_2498] at h
        refine lv_aload_n hx hb dX12_findsLeast_48 rfl (lv_at hl 0 rfl) ?_
        refine sm_get (ci := 12) (C := RX12) (T := TX12) (N := 54) (v := .ref (adr (a0 + 32))) hx hb hts hin12 hown hE hP ha0 rfl rfl 42 (by decide) (hts (.fieldLink RX12 120 "OrderMoverModel" "least" "[I") (by decide +kernel)) (fun _ h9 => h9) rfl dX12_findsLeast_49 ?_
        refine lv_iload_n hx hb dX12_findsLeast_52 rfl (lv_at hl 1 rfl) ?_
        refine lv_aload_n hx hb dX12_findsLeast_53 rfl (lv_at hl 0 rfl) ?_
        refine sm_get (ci := 12) (C := RX12) (T := TX12) (N := 54) (v := .ref (adr (a0 + 28))) hx hb hts hin12 hown hE hP ha0 rfl rfl 37 (by decide) (hts (.fieldLink RX12 108 "OrderMoverModel" "tails" "[I") (by decide +kernel)) (fun _ h9 => h9) rfl dX12_findsLeast_54 ?_
        refine lv_iload_n hx hb dX12_findsLeast_57 rfl (lv_at hl 1 rfl) ?_
        obtain ⟨c58_2501, h⟩ := sm_ck h
        refine sm_iald hx hb hE hP (t12_37 ha0) c58_2501 dX12_findsLeast_58 ?_
        obtain ⟨c59_2502, h⟩ := sm_ck h
        refine sm_iast hx hb hE hJ hP hS (t12_42 ha0) c59_2502 dX12_findsLeast_59 (fun H locs hP hS => ?_)
        obtain ⟨M59_2503, hM, h⟩ := sm_lt h
        rw [← hM] at hP; clear hM
        refine lv_iinc (v := (x2_40_2494 + (1 : Int32))) (lv' := [(2, .int (x2_40_2494 + (1 : Int32))), (0, .ref (adr a0))]) hx hb dX12_findsLeast_60 hl (k := 1) rfl (congrArg (fun z => x2_40_2494 + z) (by decide)) (by decide) rfl (fun ls hl => ?_)
        refine lv_goto (tgt := 40) hx hb dX12_findsLeast_63 (by decide) ?_
        exact ih40_2497 ((x2_40_2494 + (1 : Int32)), M59_2503) _ _ _ h ⟨hP, hS, lv_sub hl [1, 0] rfl⟩
    refine lv_if_ne (tgt := 29) hx hb dX12_findsLeast_17 (by decide) (fun c17_2504 => ?_) (fun c17_2504 => ?_)
    · rw [if_neg c17_2504] at h
      refine lv_aload_n hx hb dX12_findsLeast_29 rfl (lv_at hl 0 rfl) ?_
      refine sm_get (ci := 12) (C := RX12) (T := TX12) (N := 54) (v := .ref (adr (a0 + 27))) hx hb hts hin12 hown hE hP ha0 rfl rfl 36 (by decide) (hts (.fieldLink RX12 105 "OrderMoverModel" "memberJ" "[I") (by decide +kernel)) (fun _ h9 => h9) rfl dX12_findsLeast_30 ?_
      refine lv_iconst (v := (0 : Int32)) hx hb dX12_findsLeast_33 (by decide) ?_
      obtain ⟨c34_2505, h⟩ := sm_ck h
      refine sm_iald hx hb hE hP (t12_36 ha0) c34_2505 dX12_findsLeast_34 ?_
      exact J35_2492 (M12_2489 (a0 + 27) ((0 : Int32)).toNatClampNeg) _ _ _ h ⟨hP, hS, lv_sub hl [0] rfl⟩
    · rw [if_pos c17_2504] at h
      refine lv_aload_n hx hb dX12_findsLeast_20 rfl (lv_at hl 0 rfl) ?_
      refine sm_get (ci := 12) (C := RX12) (T := TX12) (N := 54) (v := .ref (adr (a0 + 26))) hx hb hts hin12 hown hE hP ha0 rfl rfl 35 (by decide) (hts (.fieldLink RX12 102 "OrderMoverModel" "memberI" "[I") (by decide +kernel)) (fun _ h9 => h9) rfl dX12_findsLeast_21 ?_
      refine lv_iconst (v := (0 : Int32)) hx hb dX12_findsLeast_24 (by decide) ?_
      obtain ⟨c25_2506, h⟩ := sm_ck h
      refine sm_iald hx hb hE hP (t12_35 ha0) c25_2506 dX12_findsLeast_25 ?_
      refine lv_goto (tgt := 35) hx hb dX12_findsLeast_26 (by decide) ?_
      exact J35_2492 (M12_2489 (a0 + 26) ((0 : Int32)).toNatClampNeg) _ _ _ h ⟨hP, hS, lv_sub hl [0] rfl⟩
  refine lv_if_ne (tgt := 9) hx hb dX12_findsLeast_2 (by decide) (fun c2_2507 => ?_) (fun c2_2507 => ?_)
  · rw [if_neg c2_2507] at h
    refine lv_iconst (v := (0 : Int32)) hx hb dX12_findsLeast_9 (by decide) ?_
    exact J10_2487 (0 : Int32) _ _ _ h ⟨hP, hS, lv_sub hl [0, 1] rfl⟩
  · rw [if_pos c2_2507] at h
    refine lv_iconst (v := (1 : Int32)) hx hb dX12_findsLeast_5 (by decide) ?_
    refine lv_goto (tgt := 10) hx hb dX12_findsLeast_6 (by decide) ?_
    exact J10_2487 (1 : Int32) _ _ _ h ⟨hP, hS, lv_sub hl [0, 1] rfl⟩
set_option maxHeartbeats 4000000 in
set_option maxRecDepth 100000 in
theorem k_X12_highOf (l : Launch) (D : va_G) (cA : Nat → ClassId) (adr : Nat → Nat) (hJ : smJ 2 adr) (a0 : Nat) (ha0 : smT 2 a0 20) (M : smM) (v1 : Int32) (h : m_X12_highOf a0 M = some v1) : Met l yX12_highOf wsX12_highOf ({ frames := 0, cells := 0, slots := 0, locals := 0 }) (smPc D cA 2 adr M [.ref (adr a0)]) (smQi D cA 2 adr M v1) 0 0 (smA 2 adr) := by
  refine Met.ofW (cc := cX12_highOf) (maxL := 2) (ret := (some .int)) (by decide) rfl ?_
  intro p e s m args below meth c s₁ B hml hv
  obtain ⟨rfl, hE, hP⟩ := hv
  have hx := B.exec
  have hb := B.bytes
  have hr := B.returns
  have hts := atoms_spec (ws := wsX12_highOf) B.pre
  have hown : s.vm.findClass RX12 = some m.cls := findClass_of_methodNamed B.named
  have hlocks := B.notSynchronized
  have hS : va_S (smA 2 adr) s.heap s.heap [] := va_S.rf
  have hP : smP D cA 2 adr M s.heap := hP
  have hl := lv_entry ([.ref (adr a0)]) (n := 2) (Nat.le_of_ble_eq_true rfl)
  rw [lg_entry_eq]
  generalize (lg_sl ([.ref (adr a0)]) ++ List.replicate (2 - (lg_sl ([.ref (adr a0)])).length) Slot.unset).toArray = ls at hl ⊢
  have hl : lv_has ls 2 [(0, .ref (adr a0))] := hl
  unfold m_X12_highOf at h
  refine lv_bipush (v := (9 : Int32)) hx hb dX12_highOf_0 (by decide) ?_
  refine lv_istore_n (lv' := [(1, .int (9 : Int32)), (0, .ref (adr a0))]) hx hb dX12_highOf_2 rfl hl (by decide) rfl (fun ls hl => ?_)
  refine sm_lp (b := fun rc q => m_X12_highOf_b3 a0 M rc q) (P := fun (q : Int32) H locs ls => smP D cA 2 adr M H ∧ va_S (smA 2 adr) s.heap H locs ∧ lv_has ls 2 [(0, .ref (adr a0)), (1, .int q)]) (pc := 3) ?_ _ _ _ _ _ h ⟨hP, hS, lv_sub hl [1, 0] rfl⟩
  intro rc3_2509 ih3_2510 q H locs ls h hI
  obtain ⟨x1_3_2508, hq⟩ : ∃ y, y = q := ⟨_, rfl⟩; subst hq
  obtain ⟨hP, hS, hl⟩ := hI
  have hP : smP D cA 2 adr M H := hP
  have hl : lv_has ls 2 [(0, .ref (adr a0)), (1, .int x1_3_2508)] := hl
  have h : m_X12_highOf_b3 a0 M rc3_2509 x1_3_2508 = some _ := h
  unfold m_X12_highOf_b3 at h
  refine lv_iload_n hx hb dX12_highOf_3 rfl (lv_at hl 1 rfl) ?_
  refine lv_if_lt (tgt := 19) hx hb dX12_highOf_4 (by decide) (fun c4_2511 => ?_) (fun c4_2511 => ?_)
  · rw [if_pos c4_2511] at h
    refine lv_iload_n hx hb dX12_highOf_19 rfl (lv_at hl 1 rfl) ?_
    cases h
    exact sm_iret hx hb hr hlocks hP hS dX12_highOf_20
  · rw [if_neg c4_2511] at h
    refine lv_aload_n hx hb dX12_highOf_7 rfl (lv_at hl 0 rfl) ?_
    refine lv_iload_n hx hb dX12_highOf_8 rfl (lv_at hl 1 rfl) ?_
    obtain ⟨c9_2512, h⟩ := sm_ck h
    refine sm_iald hx hb hE hP ha0 c9_2512 dX12_highOf_9 ?_
    refine lv_if_ne (tgt := 19) hx hb dX12_highOf_10 (by decide) (fun c10_2513 => ?_) (fun c10_2513 => ?_)
    · rw [if_neg c10_2513] at h
      refine lv_iload_n hx hb dX12_highOf_19 rfl (lv_at hl 1 rfl) ?_
      cases h
      exact sm_iret hx hb hr hlocks hP hS dX12_highOf_20
    · rw [if_pos c10_2513] at h
      refine lv_iinc (v := (x1_3_2508 + (-1 : Int32))) (lv' := [(1, .int (x1_3_2508 + (-1 : Int32))), (0, .ref (adr a0))]) hx hb dX12_highOf_13 hl (k := 1) rfl (congrArg (fun z => x1_3_2508 + z) (by decide)) (by decide) rfl (fun ls hl => ?_)
      refine lv_goto (tgt := 3) hx hb dX12_highOf_16 (by decide) ?_
      exact ih3_2510 (x1_3_2508 + (-1 : Int32)) _ _ _ h ⟨hP, hS, lv_sub hl [1, 0] rfl⟩
