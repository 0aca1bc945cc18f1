set_option maxHeartbeats 4000000 in
set_option maxRecDepth 100000 in
theorem k_X0_greatestStairSum (l : Launch) (D : va_G) (cA : Nat → ClassId) (adr : Nat → Nat) (hJ : smJ 1 adr) (a0 : Nat) (ha0 : smT 1 a0 0) (M : smM) (v1 : Int32) (h : m_X0_greatestStairSum a0 M = some v1) : Met l yX0_greatestStairSum wsX0_greatestStairSum ({ frames := 1, cells := 0, slots := 0, locals := 27 }) (smPc D cA 1 adr M [.ref (adr a0)]) (smQi D cA 1 adr M v1) 0 0 (smA 1 adr) := by
  refine Met.ofW (cc := cX0_greatestStairSum) (maxL := 3) (ret := (some .int)) (by decide) rfl ?_
  intro p e s m args below meth c s₁ B hml hv
  obtain ⟨rfl, hE, hP⟩ := hv
  have hx := B.exec
  have hb := B.bytes
  have hr := B.returns
  have hts := atoms_spec (ws := wsX0_greatestStairSum) B.pre
  have hown : s.vm.findClass RX0 = some m.cls := findClass_of_methodNamed B.named
  have hlocks := B.notSynchronized
  have hS : va_S (smA 1 adr) s.heap s.heap [] := va_S.rf
  have hP : smP D cA 1 adr M s.heap := hP
  have hl := lv_entry ([.ref (adr a0)]) (n := 3) (Nat.le_of_ble_eq_true rfl)
  rw [lg_entry_eq]
  generalize (lg_sl ([.ref (adr a0)]) ++ List.replicate (3 - (lg_sl ([.ref (adr a0)])).length) Slot.unset).toArray = ls at hl ⊢
  have hl : lv_has ls 3 [(0, .ref (adr a0))] := hl
  unfold m_X0_greatestStairSum at h
  have hin0 : ∀ w ∈ u_ws RX0 TX0 9, w ∈ wsX0_greatestStairSum := by decide +kernel
  have hin9 : ∀ w ∈ u_ws RX9 TX9 5, w ∈ wsX0_greatestStairSum := by decide +kernel
  refine lv_iconst (v := (0 : Int32)) hx hb dX0_greatestStairSum_0 (by decide) ?_
  refine lv_istore_n (lv' := [(1, .int (0 : Int32)), (0, .ref (adr a0))]) hx hb dX0_greatestStairSum_1 rfl hl (by decide) rfl (fun ls hl => ?_)
  refine lv_iconst (v := (0 : Int32)) hx hb dX0_greatestStairSum_2 (by decide) ?_
  refine lv_istore_n (lv' := [(2, .int (0 : Int32)), (1, .int (0 : Int32)), (0, .ref (adr a0))]) hx hb dX0_greatestStairSum_3 rfl hl (by decide) rfl (fun ls hl => ?_)
  refine sm_lp (b := fun rc q => m_X0_greatestStairSum_b4 a0 M rc q.1 q.2) (P := fun (q : Int32 × Int32) H locs ls => smP D cA 1 adr M H ∧ va_S (smA 1 adr) s.heap H locs ∧ lv_has ls 3 [(0, .ref (adr a0)), (1, .int q.1), (2, .int q.2)]) (pc := 4) ?_ _ _ _ _ _ h ⟨hP, hS, lv_sub hl [2, 1, 0] rfl⟩
  intro rc4_3 ih4_4 q H locs ls h hI
  obtain ⟨x1_4_1, x2_4_2⟩ := q
  obtain ⟨hP, hS, hl⟩ := hI
  have hP : smP D cA 1 adr M H := hP
  have hl : lv_has ls 3 [(0, .ref (adr a0)), (1, .int x1_4_1), (2, .int x2_4_2)] := hl
  have h : m_X0_greatestStairSum_b4 a0 M rc4_3 x1_4_1 x2_4_2 = some _ := h
  unfold m_X0_greatestStairSum_b4 at h
  refine lv_iload_n hx hb dX0_greatestStairSum_4 rfl (lv_at hl 2 rfl) ?_
  refine lv_aload_n hx hb dX0_greatestStairSum_5 rfl (lv_at hl 0 rfl) ?_
  refine sm_get (ci := 0) (C := RX0) (T := TX0) (N := 9) (v := .ref (adr (a0 + 16))) hx hb hts hin0 hown hE hP ha0 rfl rfl 2 (by decide) (hts (.fieldLink RX0 28 "OrderMover$Base" "span" "LOrderMover$Span;") (by decide +kernel)) (fun _ h9 => h9) rfl dX0_greatestStairSum_6 ?_
  refine sm_get (ci := 9) (C := RX9) (T := TX9) (N := 5) (v := .int (M (a0 + 16) 0)) hx hb hts hin9 hown hE hP (t0_2 ha0) rfl rfl 0 (by decide) (hts (.fieldLink RX0 108 "OrderMover$Span" "howMany" "I") (by decide +kernel)) (fun _ h9 => h9) rfl dX0_greatestStairSum_9 ?_
  refine lv_icmp_ge (tgt := 39) hx hb dX0_greatestStairSum_12 (by decide) (fun c12_5 => ?_) (fun c12_5 => ?_)
  · rw [if_pos c12_5] at h
    refine lv_iload_n hx hb dX0_greatestStairSum_39 rfl (lv_at hl 1 rfl) ?_
    cases h
    exact sm_iret hx hb hr hlocks hP hS dX0_greatestStairSum_40
  · rw [if_neg c12_5] at h
    refine lv_iload_n hx hb dX0_greatestStairSum_15 rfl (lv_at hl 1 rfl) ?_
    refine lv_aload_n hx hb dX0_greatestStairSum_16 rfl (lv_at hl 0 rfl) ?_
    refine sm_get (ci := 0) (C := RX0) (T := TX0) (N := 9) (v := .ref (adr (a0 + 38))) hx hb hts hin0 hown hE hP ha0 rfl rfl 3 (by decide) (hts (.fieldLink RX0 32 "OrderMover$Base" "stairXs" "[I") (by decide +kernel)) (fun _ h9 => h9) rfl dX0_greatestStairSum_17 ?_
    refine lv_iload_n hx hb dX0_greatestStairSum_20 rfl (lv_at hl 2 rfl) ?_
    obtain ⟨c21_6, h⟩ := sm_ck h
    refine sm_iald hx hb hE hP (t0_3 ha0) c21_6 dX0_greatestStairSum_21 ?_
    refine lv_aload_n hx hb dX0_greatestStairSum_22 rfl (lv_at hl 0 rfl) ?_
    refine sm_get (ci := 0) (C := RX0) (T := TX0) (N := 9) (v := .ref (adr (a0 + 39))) hx hb hts hin0 hown hE hP ha0 rfl rfl 4 (by decide) (hts (.fieldLink RX0 36 "OrderMover$Base" "stairYs" "[I") (by decide +kernel)) (fun _ h9 => h9) rfl dX0_greatestStairSum_23 ?_
    refine lv_iload_n hx hb dX0_greatestStairSum_26 rfl (lv_at hl 2 rfl) ?_
    obtain ⟨c27_7, h⟩ := sm_ck h
    refine sm_iald hx hb hE hP (t0_4 ha0) c27_7 dX0_greatestStairSum_27 ?_
    refine lv_iadd hx hb dX0_greatestStairSum_28 ?_
    refine va_mmax hx hb (by rw [hml, hl.1]) hown (hts (.methodLink RX0 134 Lib.Math.max.name) (by decide +kernel)) (hts (.static Lib.Math.max.name) (by decide +kernel)) (hts (.initialized "java/lang/Math") (by decide +kernel)) (hts (.code Lib.Math.max.name Lib.Math.max.code 2 (some .int)) (by decide +kernel)) (Nat.le_of_ble_eq_true rfl) (Nat.le_of_ble_eq_true rfl) (Nat.zero_le _) (Nat.zero_le _) dX0_greatestStairSum_29 ?_
    refine lv_istore_n (lv' := [(1, .int (if x1_4_1 < ((M (a0 + 38) (x2_4_2).toNatClampNeg) + (M (a0 + 39) (x2_4_2).toNatClampNeg)) then ((M (a0 + 38) (x2_4_2).toNatClampNeg) + (M (a0 + 39) (x2_4_2).toNatClampNeg)) else x1_4_1)), (0, .ref (adr a0)), (2, .int x2_4_2)]) hx hb dX0_greatestStairSum_32 rfl hl (by decide) rfl (fun ls hl => ?_)
    refine lv_iinc (v := (x2_4_2 + (1 : Int32))) (lv' := [(2, .int (x2_4_2 + (1 : Int32))), (1, .int (if x1_4_1 < ((M (a0 + 38) (x2_4_2).toNatClampNeg) + (M (a0 + 39) (x2_4_2).toNatClampNeg)) then ((M (a0 + 38) (x2_4_2).toNatClampNeg) + (M (a0 + 39) (x2_4_2).toNatClampNeg)) else x1_4_1)), (0, .ref (adr a0))]) hx hb dX0_greatestStairSum_33 hl (k := 2) rfl (congrArg (fun z => x2_4_2 + z) (by decide)) (by decide) rfl (fun ls hl => ?_)
    refine lv_goto (tgt := 4) hx hb dX0_greatestStairSum_36 (by decide) ?_
    exact ih4_4 ((if x1_4_1 < ((M (a0 + 38) (x2_4_2).toNatClampNeg) + (M (a0 + 39) (x2_4_2).toNatClampNeg)) then ((M (a0 + 38) (x2_4_2).toNatClampNeg) + (M (a0 + 39) (x2_4_2).toNatClampNeg)) else x1_4_1), (x2_4_2 + (1 : Int32))) _ _ _ h ⟨hP, hS, lv_sub hl [2, 1, 0] rfl⟩
set_option maxHeartbeats 4000000 in
set_option maxRecDepth 100000 in
theorem k_X0_stairAt (l : Launch) (D : va_G) (cA : Nat → ClassId) (adr : Nat → Nat) (hJ : smJ 1 adr) (a0 : Nat) (x1 : Int32) (x2 : Int32) (ha0 : smT 1 a0 0) (M : smM) (v1 : Int32) (h : m_X0_stairAt a0 x1 x2 M = some v1) : Met l yX0_stairAt wsX0_stairAt ({ frames := 0, cells := 0, slots := 0, locals := 0 }) (smPc D cA 1 adr M [.ref (adr a0), .int x1, .int x2]) (smQi D cA 1 adr M v1) 0 0 (smA 1 adr) := by
  refine Met.ofW (cc := cX0_stairAt) (maxL := 4) (ret := (some .int)) (by decide) rfl ?_
  intro p e s m args below meth c s₁ B hml hv
  obtain ⟨rfl, hE, hP⟩ := hv
  have hx := B.exec
  have hb := B.bytes
  have hr := B.returns
  have hts := atoms_spec (ws := wsX0_stairAt) B.pre
  have hown : s.vm.findClass RX0 = some m.cls := findClass_of_methodNamed B.named
  have hlocks := B.notSynchronized
  have hS : va_S (smA 1 adr) s.heap s.heap [] := va_S.rf
  have hP : smP D cA 1 adr M s.heap := hP
  have hl := lv_entry ([.ref (adr a0), .int x1, .int x2]) (n := 4) (Nat.le_of_ble_eq_true rfl)
  rw [lg_entry_eq]
  generalize (lg_sl ([.ref (adr a0), .int x1, .int x2]) ++ List.replicate (4 - (lg_sl ([.ref (adr a0), .int x1, .int x2])).length) Slot.unset).toArray = ls at hl ⊢
  have hl : lv_has ls 4 [(0, .ref (adr a0)), (1, .int x1), (2, .int x2)] := hl
  unfold m_X0_stairAt at h
  have hin0 : ∀ w ∈ u_ws RX0 TX0 9, w ∈ wsX0_stairAt := by decide +kernel
  have hin9 : ∀ w ∈ u_ws RX9 TX9 5, w ∈ wsX0_stairAt := by decide +kernel
  refine lv_iconst (v := (0 : Int32)) hx hb dX0_stairAt_0 (by decide) ?_
  refine lv_istore_n (lv' := [(3, .int (0 : Int32)), (0, .ref (adr a0)), (1, .int x1), (2, .int x2)]) hx hb dX0_stairAt_1 rfl hl (by decide) rfl (fun ls hl => ?_)
  refine sm_lp (b := fun rc q => m_X0_stairAt_b2 a0 x1 x2 M rc q) (P := fun (q : Int32) H locs ls => smP D cA 1 adr M H ∧ va_S (smA 1 adr) s.heap H locs ∧ lv_has ls 4 [(0, .ref (adr a0)), (1, .int x1), (2, .int x2), (3, .int q)]) (pc := 2) ?_ _ _ _ _ _ h ⟨hP, hS, lv_sub hl [1, 2, 3, 0] rfl⟩
  intro rc2_9 ih2_10 q H locs ls h hI
  obtain ⟨x3_2_8, hq⟩ : ∃ y, y = q := ⟨_, rfl⟩; subst hq
  obtain ⟨hP, hS, hl⟩ := hI
  have hP : smP D cA 1 adr M H := hP
  have hl : lv_has ls 4 [(0, .ref (adr a0)), (1, .int x1), (2, .int x2), (3, .int x3_2_8)] := hl
  have h : m_X0_stairAt_b2 a0 x1 x2 M rc2_9 x3_2_8 = some _ := h
  unfold m_X0_stairAt_b2 at h
  refine lv_iload_n hx hb dX0_stairAt_2 rfl (lv_at hl 3 rfl) ?_
  refine lv_aload_n hx hb dX0_stairAt_3 rfl (lv_at hl 0 rfl) ?_
  refine sm_get (ci := 0) (C := RX0) (T := TX0) (N := 9) (v := .ref (adr (a0 + 16))) hx hb hts hin0 hown hE hP ha0 rfl rfl 2 (by decide) (hts (.fieldLink RX0 28 "OrderMover$Base" "span" "LOrderMover$Span;") (by decide +kernel)) (fun _ h9 => h9) rfl dX0_stairAt_4 ?_
  refine sm_get (ci := 9) (C := RX9) (T := TX9) (N := 5) (v := .int (M (a0 + 16) 0)) hx hb hts hin9 hown hE hP (t0_2 ha0) rfl rfl 0 (by decide) (hts (.fieldLink RX0 108 "OrderMover$Span" "howMany" "I") (by decide +kernel)) (fun _ h9 => h9) rfl dX0_stairAt_7 ?_
  refine lv_icmp_ge (tgt := 41) hx hb dX0_stairAt_10 (by decide) (fun c10_11 => ?_) (fun c10_11 => ?_)
  · rw [if_pos c10_11] at h
    refine lv_bipush (v := (-4 : Int32)) hx hb dX0_stairAt_41 (by decide) ?_
    cases h
    exact sm_iret hx hb hr hlocks hP hS dX0_stairAt_43
  · rw [if_neg c10_11] at h
    refine lv_aload_n hx hb dX0_stairAt_13 rfl (lv_at hl 0 rfl) ?_
    refine sm_get (ci := 0) (C := RX0) (T := TX0) (N := 9) (v := .ref (adr (a0 + 38))) hx hb hts hin0 hown hE hP ha0 rfl rfl 3 (by decide) (hts (.fieldLink RX0 32 "OrderMover$Base" "stairXs" "[I") (by decide +kernel)) (fun _ h9 => h9) rfl dX0_stairAt_14 ?_
    refine lv_iload_n hx hb dX0_stairAt_17 rfl (lv_at hl 3 rfl) ?_
    obtain ⟨c18_12, h⟩ := sm_ck h
    refine sm_iald hx hb hE hP (t0_3 ha0) c18_12 dX0_stairAt_18 ?_
    refine lv_iload_n hx hb dX0_stairAt_19 rfl (lv_at hl 1 rfl) ?_
    refine lv_icmp_ne (tgt := 35) hx hb dX0_stairAt_20 (by decide) (fun c20_13 => ?_) (fun c20_13 => ?_)
    · rw [if_neg c20_13] at h
      refine lv_iinc (v := (x3_2_8 + (1 : Int32))) (lv' := [(3, .int (x3_2_8 + (1 : Int32))), (0, .ref (adr a0)), (1, .int x1), (2, .int x2)]) hx hb dX0_stairAt_35 hl (k := 3) rfl (congrArg (fun z => x3_2_8 + z) (by decide)) (by decide) rfl (fun ls hl => ?_)
      refine lv_goto (tgt := 2) hx hb dX0_stairAt_38 (by decide) ?_
      exact ih2_10 (x3_2_8 + (1 : Int32)) _ _ _ h ⟨hP, hS, lv_sub hl [1, 2, 3, 0] rfl⟩
    · rw [if_pos c20_13] at h
      refine lv_aload_n hx hb dX0_stairAt_23 rfl (lv_at hl 0 rfl) ?_
      refine sm_get (ci := 0) (C := RX0) (T := TX0) (N := 9) (v := .ref (adr (a0 + 39))) hx hb hts hin0 hown hE hP ha0 rfl rfl 4 (by decide) (hts (.fieldLink RX0 36 "OrderMover$Base" "stairYs" "[I") (by decide +kernel)) (fun _ h9 => h9) rfl dX0_stairAt_24 ?_
      refine lv_iload_n hx hb dX0_stairAt_27 rfl (lv_at hl 3 rfl) ?_
      obtain ⟨c28_14, h⟩ := sm_ck h
      refine sm_iald hx hb hE hP (t0_4 ha0) c28_14 dX0_stairAt_28 ?_
      refine lv_iload_n hx hb dX0_stairAt_29 rfl (lv_at hl 2 rfl) ?_
      refine lv_icmp_ne (tgt := 35) hx hb dX0_stairAt_30 (by decide) (fun c30_15 => ?_) (fun c30_15 => ?_)
      · rw [if_neg c30_15] at h
        refine lv_iinc (v := (x3_2_8 + (1 : Int32))) (lv' := [(3, .int (x3_2_8 + (1 : Int32))), (0, .ref (adr a0)), (1, .int x1), (2, .int x2)]) hx hb dX0_stairAt_35 hl (k := 3) rfl (congrArg (fun z => x3_2_8 + z) (by decide)) (by decide) rfl (fun ls hl => ?_)
        refine lv_goto (tgt := 2) hx hb dX0_stairAt_38 (by decide) ?_
        exact ih2_10 (x3_2_8 + (1 : Int32)) _ _ _ h ⟨hP, hS, lv_sub hl [1, 2, 3, 0] rfl⟩
      · rw [if_pos c30_15] at h
        refine lv_iload_n hx hb dX0_stairAt_33 rfl (lv_at hl 3 rfl) ?_
        cases h
        exact sm_iret hx hb hr hlocks hP hS dX0_stairAt_34
set_option maxHeartbeats 4000000 in
set_option maxRecDepth 100000 in
theorem k_X11_clear (l : Launch) (D : va_G) (cA : Nat → ClassId) (adr : Nat → Nat) (hJ : smJ 1 adr) (a0 : Nat) (ha0 : smT 1 a0 20) (M : smM) (M1 : smM) (h : m_X11_clear a0 M = some M1) : Met l yX11_clear wsX11_clear ({ frames := 0, cells := 0, slots := 0, locals := 0 }) (smPc D cA 1 adr M [.ref (adr a0)]) (smQv D cA 1 adr M1) 0 0 (smA 1 adr) := by
  refine Met.ofW (cc := cX11_clear) (maxL := 2) (ret := none) (by decide) rfl ?_
  intro p e s m args below meth c s₁ B hml hv
  obtain ⟨rfl, hE, hP⟩ := hv
  have hx := B.exec
  have hb := B.bytes
  have hr := B.returns
  have hts := atoms_spec (ws := wsX11_clear) B.pre
  have hown : s.vm.findClass RX11 = some m.cls := findClass_of_methodNamed B.named
  have hlocks := B.notSynchronized
  have hS : va_S (smA 1 adr) s.heap s.heap [] := va_S.rf
  have hP : smP D cA 1 adr M s.heap := hP
  have hl := lv_entry ([.ref (adr a0)]) (n := 2) (Nat.le_of_ble_eq_true rfl)
  rw [lg_entry_eq]
  generalize (lg_sl ([.ref (adr a0)]) ++ List.replicate (2 - (lg_sl ([.ref (adr a0)])).length) Slot.unset).toArray = ls at hl ⊢
  have hl : lv_has ls 2 [(0, .ref (adr a0))] := hl
  unfold m_X11_clear at h
  refine lv_iconst (v := (0 : Int32)) hx hb dX11_clear_0 (by decide) ?_
  refine lv_istore_n (lv' := [(1, .int (0 : Int32)), (0, .ref (adr a0))]) hx hb dX11_clear_1 rfl hl (by decide) rfl (fun ls hl => ?_)
  refine sm_lp (b := fun rc q => m_X11_clear_b2 a0 rc q.1 q.2) (P := fun (q : Int32 × smM) H locs ls => smP D cA 1 adr q.2 H ∧ va_S (smA 1 adr) s.heap H locs ∧ lv_has ls 2 [(0, .ref (adr a0)), (1, .int q.1)]) (pc := 2) ?_ _ _ _ _ _ h ⟨hP, hS, lv_sub hl [1, 0] rfl⟩
  intro rc2_18 ih2_19 q H locs ls h hI
  obtain ⟨x1_2_16, M2_17⟩ := q
  obtain ⟨hP, hS, hl⟩ := hI
  have hP : smP D cA 1 adr M2_17 H := hP
  have hl : lv_has ls 2 [(0, .ref (adr a0)), (1, .int x1_2_16)] := hl
  have h : m_X11_clear_b2 a0 rc2_18 x1_2_16 M2_17 = some _ := h
  unfold m_X11_clear_b2 at h
  refine lv_iload_n hx hb dX11_clear_2 rfl (lv_at hl 1 rfl) ?_
  refine lv_aload_n hx hb dX11_clear_3 rfl (lv_at hl 0 rfl) ?_
  refine sm_alen hx hb hE hP ha0 dX11_clear_4 ?_
  refine lv_icmp_ge (tgt := 18) hx hb dX11_clear_5 (by decide) (fun c5_20 => ?_) (fun c5_20 => ?_)
  · rw [if_pos c5_20] at h
    cases h
    exact sm_vret hx hb hr hlocks hP hS dX11_clear_18
  · rw [if_neg c5_20] at h
    refine lv_aload_n hx hb dX11_clear_8 rfl (lv_at hl 0 rfl) ?_
    refine lv_iload_n hx hb dX11_clear_9 rfl (lv_at hl 1 rfl) ?_
    refine lv_iconst (v := (0 : Int32)) hx hb dX11_clear_10 (by decide) ?_
    obtain ⟨c11_21, h⟩ := sm_ck h
    refine sm_iast hx hb hE hJ hP hS ha0 c11_21 dX11_clear_11 (fun H locs hP hS => ?_)
    obtain ⟨M11_22, hM, h⟩ := sm_lt h
    rw [← hM] at hP; clear hM
    refine lv_iinc (v := (x1_2_16 + (1 : Int32))) (lv' := [(1, .int (x1_2_16 + (1 : Int32))), (0, .ref (adr a0))]) hx hb dX11_clear_12 hl (k := 1) rfl (congrArg (fun z => x1_2_16 + z) (by decide)) (by decide) rfl (fun ls hl => ?_)
    refine lv_goto (tgt := 2) hx hb dX11_clear_15 (by decide) ?_
    exact ih2_19 ((x1_2_16 + (1 : Int32)), M11_22) _ _ _ h ⟨hP, hS, lv_sub hl [1, 0] rfl⟩
set_option maxHeartbeats 4000000 in
set_option maxRecDepth 100000 in
theorem k_X6_toOne (l : Launch) (D : va_G) (cA : Nat → ClassId) (adr : Nat → Nat) (hJ : smJ 1 adr) (a0 : Nat) (a1 : Nat) (ha0 : smT 1 a0 6) (ha1 : smT 1 a1 20) (M : smM) (M1 : smM) (h : m_X6_toOne a0 a1 M = some M1) : Met l yX6_toOne wsX6_toOne ({ frames := 1, cells := 0, slots := 0, locals := 21 }) (smPc D cA 1 adr M [.ref (adr a0), .ref (adr a1)]) (smQv D cA 1 adr M1) 0 0 (smA 1 adr) := by
  refine Met.ofW (cc := cX6_toOne) (maxL := 2) (ret := none) (by decide) rfl ?_
  intro p e s m args below meth c s₁ B hml hv
  obtain ⟨rfl, hE, hP⟩ := hv
  have hx := B.exec
  have hb := B.bytes
  have hr := B.returns
  have hts := atoms_spec (ws := wsX6_toOne) B.pre
  have hown : s.vm.findClass RX6 = some m.cls := findClass_of_methodNamed B.named
  have hlocks := B.notSynchronized
  have hS : va_S (smA 1 adr) s.heap s.heap [] := va_S.rf
  have hP : smP D cA 1 adr M s.heap := hP
  have hl := lv_entry ([.ref (adr a0), .ref (adr a1)]) (n := 2) (Nat.le_of_ble_eq_true rfl)
  rw [lg_entry_eq]
  generalize (lg_sl ([.ref (adr a0), .ref (adr a1)]) ++ List.replicate (2 - (lg_sl ([.ref (adr a0), .ref (adr a1)])).length) Slot.unset).toArray = ls at hl ⊢
  have hl : lv_has ls 2 [(0, .ref (adr a0)), (1, .ref (adr a1))] := hl
  unfold m_X6_toOne at h
  refine lv_aload_n hx hb dX6_toOne_0 rfl (lv_at hl 1 rfl) ?_
  obtain ⟨M1_24, hc1_25, h⟩ := sm_bd h
  refine sm_cv (va_runSN (As := [.ref (adr a1)]) (rest := []) ⟨hx, hb, hml, hown, hts⟩ (k_X11_clear l D cA adr hJ a1 ha1 M M1_24 hc1_25) ⟨va_cnB (host := "OrderMover") 1 hts gX6_toOne_X11_clear_n47 rfl rfl rfl (hE.2 (RX6, 47, yX11_clear, "OrderMover") (by decide +kernel)) (hts (.initialized RX11) (by decide +kernel)) (by decide +kernel) ⟨Nat.le_of_ble_eq_true rfl, Nat.le_of_ble_eq_true rfl⟩, hts (.static yX11_clear) (by decide +kernel), trivial⟩ ⟨smPc_bl, smPc_in [.ref (adr a1)] hE hP⟩ rfl rfl hl.1 rfl (lv_room (Nat.le_of_ble_eq_true rfl)) dX6_toOne_1 ⟨Nat.zero_le _, Nat.zero_le _⟩) hS (fun H locs hP hS => ?_)
  refine lv_aload_n hx hb dX6_toOne_4 rfl (lv_at hl 1 rfl) ?_
  refine lv_iconst (v := (0 : Int32)) hx hb dX6_toOne_5 (by decide) ?_
  refine lv_iconst (v := (1 : Int32)) hx hb dX6_toOne_6 (by decide) ?_
  obtain ⟨c7_26, h⟩ := sm_ck h
  refine sm_iast hx hb hE hJ hP hS ha1 c7_26 dX6_toOne_7 (fun H locs hP hS => ?_)
  obtain ⟨M7_27, hM, h⟩ := sm_lt h
  rw [← hM] at hP; clear hM
  cases h
  exact sm_vret hx hb hr hlocks hP hS dX6_toOne_8
set_option maxHeartbeats 4000000 in
set_option maxRecDepth 100000 in
theorem k_X11_firstNotZero (l : Launch) (D : va_G) (cA : Nat → ClassId) (adr : Nat → Nat) (hJ : smJ 1 adr) (a0 : Nat) (ha0 : smT 1 a0 20) (M : smM) (v1 : Int32) (h : m_X11_firstNotZero a0 M = some v1) : Met l yX11_firstNotZero wsX11_firstNotZero ({ frames := 0, cells := 0, slots := 0, locals := 0 }) (smPc D cA 1 adr M [.ref (adr a0)]) (smQi D cA 1 adr M v1) 0 0 (smA 1 adr) := by
  refine Met.ofW (cc := cX11_firstNotZero) (maxL := 2) (ret := (some .int)) (by decide) rfl ?_
  intro p e s m args below meth c s₁ B hml hv
  obtain ⟨rfl, hE, hP⟩ := hv
  have hx := B.exec
  have hb := B.bytes
  have hr := B.returns
  have hts := atoms_spec (ws := wsX11_firstNotZero) B.pre
  have hown : s.vm.findClass RX11 = some m.cls := findClass_of_methodNamed B.named
  have hlocks := B.notSynchronized
  have hS : va_S (smA 1 adr) s.heap s.heap [] := va_S.rf
  have hP : smP D cA 1 adr M s.heap := hP
  have hl := lv_entry ([.ref (adr a0)]) (n := 2) (Nat.le_of_ble_eq_true rfl)
  rw [lg_entry_eq]
  generalize (lg_sl ([.ref (adr a0)]) ++ List.replicate (2 - (lg_sl ([.ref (adr a0)])).length) Slot.unset).toArray = ls at hl ⊢
  have hl : lv_has ls 2 [(0, .ref (adr a0))] := hl
  unfold m_X11_firstNotZero at h
  refine lv_iconst (v := (0 : Int32)) hx hb dX11_firstNotZero_0 (by decide) ?_
  refine lv_istore_n (lv' := [(1, .int (0 : Int32)), (0, .ref (adr a0))]) hx hb dX11_firstNotZero_1 rfl hl (by decide) rfl (fun ls hl => ?_)
  refine sm_lp (b := fun rc q => m_X11_firstNotZero_b2 a0 M rc q) (P := fun (q : Int32) H locs ls => smP D cA 1 adr M H ∧ va_S (smA 1 adr) s.heap H locs ∧ lv_has ls 2 [(0, .ref (adr a0)), (1, .int q)]) (pc := 2) ?_ _ _ _ _ _ h ⟨hP, hS, lv_sub hl [1, 0] rfl⟩
  intro rc2_29 ih2_30 q H locs ls h hI
  obtain ⟨x1_2_28, hq⟩ : ∃ y, y = q := ⟨_, rfl⟩; subst hq
  obtain ⟨hP, hS, hl⟩ := hI
  have hP : smP D cA 1 adr M H := hP
  have hl : lv_has ls 2 [(0, .ref (adr a0)), (1, .int x1_2_28)] := hl
  have h : m_X11_firstNotZero_b2 a0 M rc2_29 x1_2_28 = some _ := h
  unfold m_X11_firstNotZero_b2 at h
  refine lv_iload_n hx hb dX11_firstNotZero_2 rfl (lv_at hl 1 rfl) ?_
  refine lv_aload_n hx hb dX11_firstNotZero_3 rfl (lv_at hl 0 rfl) ?_
  refine sm_alen hx hb hE hP ha0 dX11_firstNotZero_4 ?_
  refine lv_icmp_ge (tgt := 22) hx hb dX11_firstNotZero_5 (by decide) (fun c5_31 => ?_) (fun c5_31 => ?_)
  · rw [if_pos c5_31] at h
    refine lv_iconst (v := (-1 : Int32)) hx hb dX11_firstNotZero_22 (by decide) ?_
    cases h
    exact sm_iret hx hb hr hlocks hP hS dX11_firstNotZero_23
  · rw [if_neg c5_31] at h
    refine lv_aload_n hx hb dX11_firstNotZero_8 rfl (lv_at hl 0 rfl) ?_
    refine lv_iload_n hx hb dX11_firstNotZero_9 rfl (lv_at hl 1 rfl) ?_
    obtain ⟨c10_32, h⟩ := sm_ck h
    refine sm_iald hx hb hE hP ha0 c10_32 dX11_firstNotZero_10 ?_
    refine lv_if_eq (tgt := 16) hx hb dX11_firstNotZero_11 (by decide) (fun c11_33 => ?_) (fun c11_33 => ?_)
    · rw [if_pos c11_33] at h
      refine lv_iinc (v := (x1_2_28 + (1 : Int32))) (lv' := [(1, .int (x1_2_28 + (1 : Int32))), (0, .ref (adr a0))]) hx hb dX11_firstNotZero_16 hl (k := 1) rfl (congrArg (fun z => x1_2_28 + z) (by decide)) (by decide) rfl (fun ls hl => ?_)
      refine lv_goto (tgt := 2) hx hb dX11_firstNotZero_19 (by decide) ?_
      exact ih2_30 (x1_2_28 + (1 : Int32)) _ _ _ h ⟨hP, hS, lv_sub hl [1, 0] rfl⟩
    · rw [if_neg c11_33] at h
      refine lv_iload_n hx hb dX11_firstNotZero_14 rfl (lv_at hl 1 rfl) ?_
      cases h
      exact sm_iret hx hb hr hlocks hP hS dX11_firstNotZero_15
set_option maxHeartbeats 4000000 in
set_option maxRecDepth 100000 in
theorem k_X11_inverse (l : Launch) (D : va_G) (cA : Nat → ClassId) (adr : Nat → Nat) (hJ : smJ 1 adr) (x0 : Int32) (x1 : Int32) (M : smM) (v1 : Int32) (h : m_X11_inverse x0 x1 M = some v1) : Met l yX11_inverse wsX11_inverse ({ frames := 0, cells := 0, slots := 0, locals := 0 }) (smPc D cA 1 adr M [.int x0, .int x1]) (smQi D cA 1 adr M v1) 0 0 (smA 1 adr) := by
  refine Met.ofW (cc := cX11_inverse) (maxL := 3) (ret := (some .int)) (by decide) rfl ?_
  intro p e s m args below meth c s₁ B hml hv
  obtain ⟨rfl, hE, hP⟩ := hv
  have hx := B.exec
  have hb := B.bytes
  have hr := B.returns
  have hts := atoms_spec (ws := wsX11_inverse) B.pre
  have hown : s.vm.findClass RX11 = some m.cls := findClass_of_methodNamed B.named
  have hlocks := B.notSynchronized
  have hS : va_S (smA 1 adr) s.heap s.heap [] := va_S.rf
  have hP : smP D cA 1 adr M s.heap := hP
  have hl := lv_entry ([.int x0, .int x1]) (n := 3) (Nat.le_of_ble_eq_true rfl)
  rw [lg_entry_eq]
  generalize (lg_sl ([.int x0, .int x1]) ++ List.replicate (3 - (lg_sl ([.int x0, .int x1])).length) Slot.unset).toArray = ls at hl ⊢
  have hl : lv_has ls 3 [(0, .int x0), (1, .int x1)] := hl
  unfold m_X11_inverse at h
  refine lv_iconst (v := (1 : Int32)) hx hb dX11_inverse_0 (by decide) ?_
  refine lv_istore_n (lv' := [(2, .int (1 : Int32)), (0, .int x0), (1, .int x1)]) hx hb dX11_inverse_1 rfl hl (by decide) rfl (fun ls hl => ?_)
  refine sm_lp (b := fun rc q => m_X11_inverse_b2 x0 x1 M rc q) (P := fun (q : Int32) H locs ls => smP D cA 1 adr M H ∧ va_S (smA 1 adr) s.heap H locs ∧ lv_has ls 3 [(0, .int x0), (1, .int x1), (2, .int q)]) (pc := 2) ?_ _ _ _ _ _ h ⟨hP, hS, lv_sub hl [1, 2, 0] rfl⟩
  intro rc2_35 ih2_36 q H locs ls h hI
  obtain ⟨x2_2_34, hq⟩ : ∃ y, y = q := ⟨_, rfl⟩; subst hq
  obtain ⟨hP, hS, hl⟩ := hI
  have hP : smP D cA 1 adr M H := hP
  have hl : lv_has ls 3 [(0, .int x0), (1, .int x1), (2, .int x2_2_34)] := hl
  have h : m_X11_inverse_b2 x0 x1 M rc2_35 x2_2_34 = some _ := h
  unfold m_X11_inverse_b2 at h
  refine lv_iload_n hx hb dX11_inverse_2 rfl (lv_at hl 2 rfl) ?_
  refine lv_iload_n hx hb dX11_inverse_3 rfl (lv_at hl 1 rfl) ?_
  refine lv_icmp_ge (tgt := 24) hx hb dX11_inverse_4 (by decide) (fun c4_37 => ?_) (fun c4_37 => ?_)
  · rw [if_pos c4_37] at h
    refine lv_iconst (v := (0 : Int32)) hx hb dX11_inverse_24 (by decide) ?_
    cases h
    exact sm_iret hx hb hr hlocks hP hS dX11_inverse_25
  · rw [if_neg c4_37] at h
    refine lv_iload_n hx hb dX11_inverse_7 rfl (lv_at hl 2 rfl) ?_
    refine lv_iload_n hx hb dX11_inverse_8 rfl (lv_at hl 0 rfl) ?_
    refine lv_imul hx hb dX11_inverse_9 ?_
    refine lv_iload_n hx hb dX11_inverse_10 rfl (lv_at hl 1 rfl) ?_
    obtain ⟨c11_38, h⟩ := sm_ck h
    refine lv_irem hx hb dX11_inverse_11 c11_38 ?_
    refine lv_iconst (v := (1 : Int32)) hx hb dX11_inverse_12 (by decide) ?_
    refine lv_icmp_ne (tgt := 18) hx hb dX11_inverse_13 (by decide) (fun c13_39 => ?_) (fun c13_39 => ?_)
    · rw [if_neg c13_39] at h
      refine lv_iinc (v := (x2_2_34 + (1 : Int32))) (lv' := [(2, .int (x2_2_34 + (1 : Int32))), (0, .int x0), (1, .int x1)]) hx hb dX11_inverse_18 hl (k := 2) rfl (congrArg (fun z => x2_2_34 + z) (by decide)) (by decide) rfl (fun ls hl => ?_)
      refine lv_goto (tgt := 2) hx hb dX11_inverse_21 (by decide) ?_
      exact ih2_36 (x2_2_34 + (1 : Int32)) _ _ _ h ⟨hP, hS, lv_sub hl [1, 2, 0] rfl⟩
    · rw [if_pos c13_39] at h
      refine lv_iload_n hx hb dX11_inverse_16 rfl (lv_at hl 2 rfl) ?_
      cases h
      exact sm_iret hx hb hr hlocks hP hS dX11_inverse_17
set_option maxHeartbeats 4000000 in
set_option maxRecDepth 100000 in
theorem k_X11_bringMultiple (l : Launch) (D : va_G) (cA : Nat → ClassId) (adr : Nat → Nat) (hJ : smJ 1 adr) (a0 : Nat) (a1 : Nat) (x2 : Int32) (x3 : Int32) (ha0 : smT 1 a0 20) (ha1 : smT 1 a1 20) (M : smM) (M1 : smM) (h : m_X11_bringMultiple a0 a1 x2 x3 M = some M1) : Met l yX11_bringMultiple wsX11_bringMultiple ({ frames := 0, cells := 0, slots := 0, locals := 0 }) (smPc D cA 1 adr M [.ref (adr a0), .ref (adr a1), .int x2, .int x3]) (smQv D cA 1 adr M1) 0 0 (smA 1 adr) := by
  refine Met.ofW (cc := cX11_bringMultiple) (maxL := 5) (ret := none) (by decide) rfl ?_
  intro p e s m args below meth c s₁ B hml hv
  obtain ⟨rfl, hE, hP⟩ := hv
  have hx := B.exec
  have hb := B.bytes
  have hr := B.returns
  have hts := atoms_spec (ws := wsX11_bringMultiple) B.pre
  have hown : s.vm.findClass RX11 = some m.cls := findClass_of_methodNamed B.named
  have hlocks := B.notSynchronized
  have hS : va_S (smA 1 adr) s.heap s.heap [] := va_S.rf
  have hP : smP D cA 1 adr M s.heap := hP
  have hl := lv_entry ([.ref (adr a0), .ref (adr a1), .int x2, .int x3]) (n := 5) (Nat.le_of_ble_eq_true rfl)
  rw [lg_entry_eq]
  generalize (lg_sl ([.ref (adr a0), .ref (adr a1), .int x2, .int x3]) ++ List.replicate (5 - (lg_sl ([.ref (adr a0), .ref (adr a1), .int x2, .int x3])).length) Slot.unset).toArray = ls at hl ⊢
  have hl : lv_has ls 5 [(0, .ref (adr a0)), (1, .ref (adr a1)), (2, .int x2), (3, .int x3)] := hl
  unfold m_X11_bringMultiple at h
  refine lv_iload_n hx hb dX11_bringMultiple_0 rfl (lv_at hl 3 rfl) ?_
  refine lv_iconst (v := (2 : Int32)) hx hb dX11_bringMultiple_1 (by decide) ?_
  refine lv_icmp_ge (tgt := 6) hx hb dX11_bringMultiple_2 (by decide) (fun c2_40 => ?_) (fun c2_40 => ?_)
  · rw [if_pos c2_40] at h
    refine lv_iconst (v := (0 : Int32)) hx hb dX11_bringMultiple_6 (by decide) ?_
    refine lv_istore (lv' := [(4, .int (0 : Int32)), (0, .ref (adr a0)), (1, .ref (adr a1)), (2, .int x2), (3, .int x3)]) hx hb dX11_bringMultiple_7 hl (by decide) rfl (fun ls hl => ?_)
    refine sm_lp (b := fun rc q => m_X11_bringMultiple_b9 a0 a1 x2 x3 rc q.1 q.2) (P := fun (q : Int32 × smM) H locs ls => smP D cA 1 adr q.2 H ∧ va_S (smA 1 adr) s.heap H locs ∧ lv_has ls 5 [(0, .ref (adr a0)), (1, .ref (adr a1)), (2, .int x2), (3, .int x3), (4, .int q.1)]) (pc := 9) ?_ _ _ _ _ _ h ⟨hP, hS, lv_sub hl [1, 2, 3, 4, 0] rfl⟩
    intro rc9_43 ih9_44 q H locs ls h hI
    obtain ⟨x4_9_41, M9_42⟩ := q
    obtain ⟨hP, hS, hl⟩ := hI
    have hP : smP D cA 1 adr M9_42 H := hP
    have hl : lv_has ls 5 [(0, .ref (adr a0)), (1, .ref (adr a1)), (2, .int x2), (3, .int x3), (4, .int x4_9_41)] := hl
    have h : m_X11_bringMultiple_b9 a0 a1 x2 x3 rc9_43 x4_9_41 M9_42 = some _ := h
    unfold m_X11_bringMultiple_b9 at h
    refine lv_iload hx hb dX11_bringMultiple_9 (lv_at hl 4 rfl) ?_
    refine lv_aload_n hx hb dX11_bringMultiple_11 rfl (lv_at hl 0 rfl) ?_
    refine sm_alen hx hb hE hP ha0 dX11_bringMultiple_12 ?_
    refine lv_icmp_ge (tgt := 46) hx hb dX11_bringMultiple_13 (by decide) (fun c13_45 => ?_) (fun c13_45 => ?_)
    · rw [if_pos c13_45] at h
      cases h
      exact sm_vret hx hb hr hlocks hP hS dX11_bringMultiple_46
    · rw [if_neg c13_45] at h
      refine lv_iload hx hb dX11_bringMultiple_16 (lv_at hl 4 rfl) ?_
      refine lv_aload_n hx hb dX11_bringMultiple_18 rfl (lv_at hl 1 rfl) ?_
      refine sm_alen hx hb hE hP ha1 dX11_bringMultiple_19 ?_
      refine lv_icmp_ge (tgt := 46) hx hb dX11_bringMultiple_20 (by decide) (fun c20_46 => ?_) (fun c20_46 => ?_)
      · rw [if_pos c20_46] at h
        cases h
        exact sm_vret hx hb hr hlocks hP hS dX11_bringMultiple_46
      · rw [if_neg c20_46] at h
        refine lv_aload_n hx hb dX11_bringMultiple_23 rfl (lv_at hl 0 rfl) ?_
        refine lv_iload hx hb dX11_bringMultiple_24 (lv_at hl 4 rfl) ?_
        refine lv_aload_n hx hb dX11_bringMultiple_26 rfl (lv_at hl 0 rfl) ?_
        refine lv_iload hx hb dX11_bringMultiple_27 (lv_at hl 4 rfl) ?_
        obtain ⟨c29_47, h⟩ := sm_ck h
        refine sm_iald hx hb hE hP ha0 c29_47 dX11_bringMultiple_29 ?_
        refine lv_iload_n hx hb dX11_bringMultiple_30 rfl (lv_at hl 2 rfl) ?_
        refine lv_aload_n hx hb dX11_bringMultiple_31 rfl (lv_at hl 1 rfl) ?_
        refine lv_iload hx hb dX11_bringMultiple_32 (lv_at hl 4 rfl) ?_
        obtain ⟨c34_48, h⟩ := sm_ck h
        refine sm_iald hx hb hE hP ha1 c34_48 dX11_bringMultiple_34 ?_
        refine lv_imul hx hb dX11_bringMultiple_35 ?_
        refine lv_iadd hx hb dX11_bringMultiple_36 ?_
        refine lv_iload_n hx hb dX11_bringMultiple_37 rfl (lv_at hl 3 rfl) ?_
        obtain ⟨c38_49, h⟩ := sm_ck h
        refine lv_irem hx hb dX11_bringMultiple_38 c38_49 ?_
        obtain ⟨c39_50, h⟩ := sm_ck h
        refine sm_iast hx hb hE hJ hP hS ha0 c39_50 dX11_bringMultiple_39 (fun H locs hP hS => ?_)
        obtain ⟨M39_51, hM, h⟩ := sm_lt h
        rw [← hM] at hP; clear hM
        refine lv_iinc (v := (x4_9_41 + (1 : Int32))) (lv' := [(4, .int (x4_9_41 + (1 : Int32))), (0, .ref (adr a0)), (1, .ref (adr a1)), (2, .int x2), (3, .int x3)]) hx hb dX11_bringMultiple_40 hl (k := 4) rfl (congrArg (fun z => x4_9_41 + z) (by decide)) (by decide) rfl (fun ls hl => ?_)
        refine lv_goto (tgt := 9) hx hb dX11_bringMultiple_43 (by decide) ?_
        exact ih9_44 ((x4_9_41 + (1 : Int32)), M39_51) _ _ _ h ⟨hP, hS, lv_sub hl [1, 2, 3, 4, 0] rfl⟩
  · rw [if_neg c2_40] at h
    cases h
    exact sm_vret hx hb hr hlocks hP hS dX11_bringMultiple_5
set_option maxHeartbeats 4000000 in
set_option maxRecDepth 100000 in
theorem k_X9_absorb (l : Launch) (D : va_G) (cA : Nat → ClassId) (adr : Nat → Nat) (hJ : smJ 1 adr) (a0 : Nat) (a1 : Nat) (a2 : Nat) (ha0 : smT 1 a0 9) (ha1 : smT 1 a1 20) (ha2 : smT 1 a2 20) (M : smM) (M1 : smM) (h : m_X9_absorb a0 a1 a2 M = some M1) : Met l yX9_absorb wsX9_absorb ({ frames := 1, cells := 0, slots := 0, locals := 24 }) (smPc D cA 1 adr M [.ref (adr a0), .ref (adr a1), .ref (adr a2)]) (smQv D cA 1 adr M1) 0 0 (smA 1 adr) := by
  refine Met.ofW (cc := cX9_absorb) (maxL := 5) (ret := none) (by decide) rfl ?_
  intro p e s m args below meth c s₁ B hml hv
  obtain ⟨rfl, hE, hP⟩ := hv
  have hx := B.exec
  have hb := B.bytes
  have hr := B.returns
  have hts := atoms_spec (ws := wsX9_absorb) B.pre
  have hown : s.vm.findClass RX9 = some m.cls := findClass_of_methodNamed B.named
  have hlocks := B.notSynchronized
  have hS : va_S (smA 1 adr) s.heap s.heap [] := va_S.rf
  have hP : smP D cA 1 adr M s.heap := hP
  have hl := lv_entry ([.ref (adr a0), .ref (adr a1), .ref (adr a2)]) (n := 5) (Nat.le_of_ble_eq_true rfl)
  rw [lg_entry_eq]
  generalize (lg_sl ([.ref (adr a0), .ref (adr a1), .ref (adr a2)]) ++ List.replicate (5 - (lg_sl ([.ref (adr a0), .ref (adr a1), .ref (adr a2)])).length) Slot.unset).toArray = ls at hl ⊢
  have hl : lv_has ls 5 [(0, .ref (adr a0)), (1, .ref (adr a1)), (2, .ref (adr a2))] := hl
  unfold m_X9_absorb at h
  have hin9 : ∀ w ∈ u_ws RX9 TX9 5, w ∈ wsX9_absorb := by decide +kernel
  refine lv_aload_n hx hb dX9_absorb_0 rfl (lv_at hl 1 rfl) ?_
  obtain ⟨v1_52, hc1_54, h⟩ := sm_bd h
  refine sm_ci (va_runSN (As := [.ref (adr a1)]) (rest := []) ⟨hx, hb, hml, hown, hts⟩ (k_X11_firstNotZero l D cA adr hJ a1 ha1 M v1_52 hc1_54) ⟨va_cnB (host := "OrderMover") 1 hts gX9_absorb_X11_firstNotZero_n38 rfl rfl rfl (hE.2 (RX9, 38, yX11_firstNotZero, "OrderMover") (by decide +kernel)) (hts (.initialized RX11) (by decide +kernel)) (by decide +kernel) ⟨Nat.le_of_ble_eq_true rfl, Nat.le_of_ble_eq_true rfl⟩, hts (.static yX11_firstNotZero) (by decide +kernel), trivial⟩ ⟨smPc_bl, smPc_in [.ref (adr a1)] hE hP⟩ rfl rfl hl.1 rfl (lv_room (Nat.le_of_ble_eq_true rfl)) dX9_absorb_1 ⟨Nat.zero_le _, Nat.zero_le _⟩) hS (fun H locs hP hS => ?_)
  refine lv_istore_n (lv' := [(3, .int v1_52), (0, .ref (adr a0)), (1, .ref (adr a1)), (2, .ref (adr a2))]) hx hb dX9_absorb_4 rfl hl (by decide) rfl (fun ls hl => ?_)
  refine lv_iload_n hx hb dX9_absorb_5 rfl (lv_at hl 0 rfl) ?_
  refine lv_if_lt (tgt := 18) hx hb dX9_absorb_6 (by decide) (fun c6_55 => ?_) (fun c6_55 => ?_)
  · rw [if_pos c6_55] at h
    cases h
    exact sm_vret hx hb hr hlocks hP hS dX9_absorb_18
  · rw [if_neg c6_55] at h
    refine lv_aload_n hx hb dX9_absorb_9 rfl (lv_at hl 1 rfl) ?_
    refine sm_get (ci := 9) (C := RX9) (T := TX9) (N := 5) (v := .int (M a0 0)) hx hb hts hin9 hown hE hP ha0 rfl rfl 0 (by decide) (hts (.fieldLink RX9 23 "OrderMover$Span" "howMany" "I") (by decide +kernel)) (fun _ h9 => h9) rfl dX9_absorb_10 ?_
    refine lv_bipush (v := (9 : Int32)) hx hb dX9_absorb_13 (by decide) ?_
    refine lv_icmp_lt (tgt := 19) hx hb dX9_absorb_15 (by decide) (fun c15_56 => ?_) (fun c15_56 => ?_)
    · rw [if_pos c15_56] at h
      refine lv_aload_n hx hb dX9_absorb_19 rfl (lv_at hl 2 rfl) ?_
      refine lv_iload_n hx hb dX9_absorb_20 rfl (lv_at hl 0 rfl) ?_
      obtain ⟨c21_57, h⟩ := sm_ck h
      refine sm_iald hx hb hE hP ha1 c21_57 dX9_absorb_21 ?_
      refine lv_aload_n hx hb dX9_absorb_22 rfl (lv_at hl 1 rfl) ?_
      refine sm_get (ci := 9) (C := RX9) (T := TX9) (N := 5) (v := .int (M a0 1)) hx hb hts hin9 hown hE hP ha0 rfl rfl 1 (by decide) (hts (.fieldLink RX9 27 "OrderMover$Span" "p" "I") (by decide +kernel)) (fun _ h9 => h9) rfl dX9_absorb_23 ?_
      obtain ⟨v26_58, hc26_60, h⟩ := sm_bd h
      refine sm_ci (va_runSN (As := [.int (M a1 (v1_52).toNatClampNeg), .int (M a0 1)]) (rest := []) ⟨hx, hb, hml, hown, hts⟩ (k_X11_inverse l D cA adr hJ (M a1 (v1_52).toNatClampNeg) (M a0 1)  M v26_58 hc26_60) ⟨va_cnB (host := "OrderMover") 2 hts gX9_absorb_X11_inverse_n42 rfl rfl rfl (hE.2 (RX9, 42, yX11_inverse, "OrderMover") (by decide +kernel)) (hts (.initialized RX11) (by decide +kernel)) (by decide +kernel) ⟨Nat.le_of_ble_eq_true rfl, Nat.le_of_ble_eq_true rfl⟩, hts (.static yX11_inverse) (by decide +kernel), trivial⟩ ⟨smPc_bl, smPc_in [.int (M a1 (v1_52).toNatClampNeg), .int (M a0 1)] hE hP⟩ rfl rfl hl.1 rfl (lv_room (Nat.le_of_ble_eq_true rfl)) dX9_absorb_26 ⟨Nat.zero_le _, Nat.zero_le _⟩) hS (fun H locs hP hS => ?_)
      refine lv_istore (lv' := [(4, .int v26_58), (3, .int v1_52), (0, .ref (adr a0)), (1, .ref (adr a1)), (2, .ref (adr a2))]) hx hb dX9_absorb_29 hl (by decide) rfl (fun ls hl => ?_)
      refine lv_aload_n hx hb dX9_absorb_31 rfl (lv_at hl 2 rfl) ?_
      refine sm_get (ci := 9) (C := RX9) (T := TX9) (N := 5) (v := .ref (adr (a0 + 1))) hx hb hts hin9 hown hE hP ha0 rfl rfl 2 (by decide) (hts (.fieldLink RX9 11 "OrderMover$Span" "rows" "[[I") (by decide +kernel)) (fun _ h9 => h9) rfl dX9_absorb_32 ?_
      refine lv_aload_n hx hb dX9_absorb_35 rfl (lv_at hl 2 rfl) ?_
      refine sm_get (ci := 9) (C := RX9) (T := TX9) (N := 5) (v := .int (M a0 0)) hx hb hts hin9 hown hE hP ha0 rfl rfl 0 (by decide) (hts (.fieldLink RX9 23 "OrderMover$Span" "howMany" "I") (by decide +kernel)) (fun _ h9 => h9) rfl dX9_absorb_36 ?_
      obtain ⟨c39_61, h⟩ := sm_ck h
      refine sm_aald22 hx hb hE hP (t9_2 ha0) c39_61 dX9_absorb_39 ?_
      obtain ⟨M40_63, hc40_64, h⟩ := sm_bd h
      refine sm_cv (va_runSN (As := [.ref (adr ((a0 + 1) + 1 + ((M a0 0)).toNatClampNeg))]) (rest := []) ⟨hx, hb, hml, hown, hts⟩ (k_X11_clear l D cA adr hJ ((a0 + 1) + 1 + ((M a0 0)).toNatClampNeg) (te22 (t9_2 ha0) c39_61) M M40_63 hc40_64) ⟨va_cnB (host := "OrderMover") 1 hts gX9_absorb_X11_clear_n30 rfl rfl rfl (hE.2 (RX9, 30, yX11_clear, "OrderMover") (by decide +kernel)) (hts (.initialized RX11) (by decide +kernel)) (by decide +kernel) ⟨Nat.le_of_ble_eq_true rfl, Nat.le_of_ble_eq_true rfl⟩, hts (.static yX11_clear) (by decide +kernel), trivial⟩ ⟨smPc_bl, smPc_in [.ref (adr ((a0 + 1) + 1 + ((M a0 0)).toNatClampNeg))] hE hP⟩ rfl rfl hl.1 rfl (lv_room (Nat.le_of_ble_eq_true rfl)) dX9_absorb_40 ⟨Nat.zero_le _, Nat.zero_le _⟩) hS (fun H locs hP hS => ?_)
      refine lv_aload_n hx hb dX9_absorb_43 rfl (lv_at hl 2 rfl) ?_
      refine sm_get (ci := 9) (C := RX9) (T := TX9) (N := 5) (v := .ref (adr (a0 + 1))) hx hb hts hin9 hown hE hP ha0 rfl rfl 2 (by decide) (hts (.fieldLink RX9 11 "OrderMover$Span" "rows" "[[I") (by decide +kernel)) (fun _ h9 => h9) rfl dX9_absorb_44 ?_
      refine lv_aload_n hx hb dX9_absorb_47 rfl (lv_at hl 2 rfl) ?_
      refine sm_get (ci := 9) (C := RX9) (T := TX9) (N := 5) (v := .int (M40_63 a0 0)) hx hb hts hin9 hown hE hP ha0 rfl rfl 0 (by decide) (hts (.fieldLink RX9 23 "OrderMover$Span" "howMany" "I") (by decide +kernel)) (fun _ h9 => h9) rfl dX9_absorb_48 ?_
      obtain ⟨c51_65, h⟩ := sm_ck h
      refine sm_aald22 hx hb hE hP (t9_2 ha0) c51_65 dX9_absorb_51 ?_
      refine lv_aload_n hx hb dX9_absorb_52 rfl (lv_at hl 3 rfl) ?_
      refine lv_iload hx hb dX9_absorb_53 (lv_at hl 0 rfl) ?_
      refine lv_aload_n hx hb dX9_absorb_55 rfl (lv_at hl 2 rfl) ?_
      refine sm_get (ci := 9) (C := RX9) (T := TX9) (N := 5) (v := .int (M40_63 a0 1)) hx hb hts hin9 hown hE hP ha0 rfl rfl 1 (by decide) (hts (.fieldLink RX9 27 "OrderMover$Span" "p" "I") (by decide +kernel)) (fun _ h9 => h9) rfl dX9_absorb_56 ?_
      obtain ⟨M59_67, hc59_68, h⟩ := sm_bd h
      refine sm_cv (va_runSN (As := [.ref (adr ((a0 + 1) + 1 + ((M40_63 a0 0)).toNatClampNeg)), .ref (adr a1), .int v26_58, .int (M40_63 a0 1)]) (rest := []) ⟨hx, hb, hml, hown, hts⟩ (k_X11_bringMultiple l D cA adr hJ ((a0 + 1) + 1 + ((M40_63 a0 0)).toNatClampNeg) a1 v26_58 (M40_63 a0 1) (te22 (t9_2 ha0) c51_65) ha1 M40_63 M59_67 hc59_68) ⟨va_cnB (host := "OrderMover") 4 hts gX9_absorb_X11_bringMultiple_n34 rfl rfl rfl (hE.2 (RX9, 34, yX11_bringMultiple, "OrderMover") (by decide +kernel)) (hts (.initialized RX11) (by decide +kernel)) (by decide +kernel) ⟨Nat.le_of_ble_eq_true rfl, Nat.le_of_ble_eq_true rfl⟩, hts (.static yX11_bringMultiple) (by decide +kernel), trivial⟩ ⟨smPc_bl, smPc_in [.ref (adr ((a0 + 1) + 1 + ((M40_63 a0 0)).toNatClampNeg)), .ref (adr a1), .int v26_58, .int (M40_63 a0 1)] hE hP⟩ rfl rfl hl.1 rfl (lv_room (Nat.le_of_ble_eq_true rfl)) dX9_absorb_59 ⟨Nat.zero_le _, Nat.zero_le _⟩) hS (fun H locs hP hS => ?_)
      refine lv_aload_n hx hb dX9_absorb_62 rfl (lv_at hl 2 rfl) ?_
      refine sm_get (ci := 9) (C := RX9) (T := TX9) (N := 5) (v := .ref (adr (a0 + 11))) hx hb hts hin9 hown hE hP ha0 rfl rfl 3 (by decide) (hts (.fieldLink RX9 16 "OrderMover$Span" "shares" "[[I") (by decide +kernel)) (fun _ h9 => h9) rfl dX9_absorb_63 ?_
      refine lv_aload_n hx hb dX9_absorb_66 rfl (lv_at hl 2 rfl) ?_
      refine sm_get (ci := 9) (C := RX9) (T := TX9) (N := 5) (v := .int (M59_67 a0 0)) hx hb hts hin9 hown hE hP ha0 rfl rfl 0 (by decide) (hts (.fieldLink RX9 23 "OrderMover$Span" "howMany" "I") (by decide +kernel)) (fun _ h9 => h9) rfl dX9_absorb_67 ?_
      obtain ⟨c70_69, h⟩ := sm_ck h
      refine sm_aald22 hx hb hE hP (t9_3 ha0) c70_69 dX9_absorb_70 ?_
      obtain ⟨M71_71, hc71_72, h⟩ := sm_bd h
      refine sm_cv (va_runSN (As := [.ref (adr ((a0 + 11) + 1 + ((M59_67 a0 0)).toNatClampNeg))]) (rest := []) ⟨hx, hb, hml, hown, hts⟩ (k_X11_clear l D cA adr hJ ((a0 + 11) + 1 + ((M59_67 a0 0)).toNatClampNeg) (te22 (t9_3 ha0) c70_69) M59_67 M71_71 hc71_72) ⟨va_cnB (host := "OrderMover") 1 hts gX9_absorb_X11_clear_n30 rfl rfl rfl (hE.2 (RX9, 30, yX11_clear, "OrderMover") (by decide +kernel)) (hts (.initialized RX11) (by decide +kernel)) (by decide +kernel) ⟨Nat.le_of_ble_eq_true rfl, Nat.le_of_ble_eq_true rfl⟩, hts (.static yX11_clear) (by decide +kernel), trivial⟩ ⟨smPc_bl, smPc_in [.ref (adr ((a0 + 11) + 1 + ((M59_67 a0 0)).toNatClampNeg))] hE hP⟩ rfl rfl hl.1 rfl (lv_room (Nat.le_of_ble_eq_true rfl)) dX9_absorb_71 ⟨Nat.zero_le _, Nat.zero_le _⟩) hS (fun H locs hP hS => ?_)
      refine lv_aload_n hx hb dX9_absorb_74 rfl (lv_at hl 2 rfl) ?_
      refine sm_get (ci := 9) (C := RX9) (T := TX9) (N := 5) (v := .ref (adr (a0 + 11))) hx hb hts hin9 hown hE hP ha0 rfl rfl 3 (by decide) (hts (.fieldLink RX9 16 "OrderMover$Span" "shares" "[[I") (by decide +kernel)) (fun _ h9 => h9) rfl dX9_absorb_75 ?_
      refine lv_aload_n hx hb dX9_absorb_78 rfl (lv_at hl 2 rfl) ?_
      refine sm_get (ci := 9) (C := RX9) (T := TX9) (N := 5) (v := .int (M71_71 a0 0)) hx hb hts hin9 hown hE hP ha0 rfl rfl 0 (by decide) (hts (.fieldLink RX9 23 "OrderMover$Span" "howMany" "I") (by decide +kernel)) (fun _ h9 => h9) rfl dX9_absorb_79 ?_
      obtain ⟨c82_73, h⟩ := sm_ck h
      refine sm_aald22 hx hb hE hP (t9_3 ha0) c82_73 dX9_absorb_82 ?_
      refine lv_aload_n hx hb dX9_absorb_83 rfl (lv_at hl 4 rfl) ?_
      refine lv_aload_n hx hb dX9_absorb_84 rfl (lv_at hl 2 rfl) ?_
      refine sm_get (ci := 9) (C := RX9) (T := TX9) (N := 5) (v := .int (M71_71 a0 1)) hx hb hts hin9 hown hE hP ha0 rfl rfl 1 (by decide) (hts (.fieldLink RX9 27 "OrderMover$Span" "p" "I") (by decide +kernel)) (fun _ h9 => h9) rfl dX9_absorb_85 ?_
      refine lv_iload hx hb dX9_absorb_88 (lv_at hl 0 rfl) ?_
      refine lv_isub hx hb dX9_absorb_90 ?_
      refine lv_aload_n hx hb dX9_absorb_91 rfl (lv_at hl 2 rfl) ?_
      refine sm_get (ci := 9) (C := RX9) (T := TX9) (N := 5) (v := .int (M71_71 a0 1)) hx hb hts hin9 hown hE hP ha0 rfl rfl 1 (by decide) (hts (.fieldLink RX9 27 "OrderMover$Span" "p" "I") (by decide +kernel)) (fun _ h9 => h9) rfl dX9_absorb_92 ?_
      obtain ⟨M95_75, hc95_76, h⟩ := sm_bd h
      refine sm_cv (va_runSN (As := [.ref (adr ((a0 + 11) + 1 + ((M71_71 a0 0)).toNatClampNeg)), .ref (adr a2), .int ((M71_71 a0 1) - v26_58), .int (M71_71 a0 1)]) (rest := []) ⟨hx, hb, hml, hown, hts⟩ (k_X11_bringMultiple l D cA adr hJ ((a0 + 11) + 1 + ((M71_71 a0 0)).toNatClampNeg) a2 ((M71_71 a0 1) - v26_58) (M71_71 a0 1) (te22 (t9_3 ha0) c82_73) ha2 M71_71 M95_75 hc95_76) ⟨va_cnB (host := "OrderMover") 4 hts gX9_absorb_X11_bringMultiple_n34 rfl rfl rfl (hE.2 (RX9, 34, yX11_bringMultiple, "OrderMover") (by decide +kernel)) (hts (.initialized RX11) (by decide +kernel)) (by decide +kernel) ⟨Nat.le_of_ble_eq_true rfl, Nat.le_of_ble_eq_true rfl⟩, hts (.static yX11_bringMultiple) (by decide +kernel), trivial⟩ ⟨smPc_bl, smPc_in [.ref (adr ((a0 + 11) + 1 + ((M71_71 a0 0)).toNatClampNeg)), .ref (adr a2), .int ((M71_71 a0 1) - v26_58), .int (M71_71 a0 1)] hE hP⟩ rfl rfl hl.1 rfl (lv_room (Nat.le_of_ble_eq_true rfl)) dX9_absorb_95 ⟨Nat.zero_le _, Nat.zero_le _⟩) hS (fun H locs hP hS => ?_)
      refine lv_aload_n hx hb dX9_absorb_98 rfl (lv_at hl 2 rfl) ?_
      refine sm_get (ci := 9) (C := RX9) (T := TX9) (N := 5) (v := .ref (adr (a0 + 11))) hx hb hts hin9 hown hE hP ha0 rfl rfl 3 (by decide) (hts (.fieldLink RX9 16 "OrderMover$Span" "shares" "[[I") (by decide +kernel)) (fun _ h9 => h9) rfl dX9_absorb_99 ?_
      refine lv_aload_n hx hb dX9_absorb_102 rfl (lv_at hl 2 rfl) ?_
      refine sm_get (ci := 9) (C := RX9) (T := TX9) (N := 5) (v := .int (M95_75 a0 0)) hx hb hts hin9 hown hE hP ha0 rfl rfl 0 (by decide) (hts (.fieldLink RX9 23 "OrderMover$Span" "howMany" "I") (by decide +kernel)) (fun _ h9 => h9) rfl dX9_absorb_103 ?_
      obtain ⟨c106_77, h⟩ := sm_ck h
      refine sm_aald22 hx hb hE hP (t9_3 ha0) c106_77 dX9_absorb_106 ?_
      refine lv_aload_n hx hb dX9_absorb_107 rfl (lv_at hl 2 rfl) ?_
      refine sm_get (ci := 9) (C := RX9) (T := TX9) (N := 5) (v := .int (M95_75 a0 0)) hx hb hts hin9 hown hE hP ha0 rfl rfl 0 (by decide) (hts (.fieldLink RX9 23 "OrderMover$Span" "howMany" "I") (by decide +kernel)) (fun _ h9 => h9) rfl dX9_absorb_108 ?_
      refine lv_iload hx hb dX9_absorb_111 (lv_at hl 0 rfl) ?_
      obtain ⟨c113_78, h⟩ := sm_ck h
      refine sm_iast hx hb hE hJ hP hS (te22 (t9_3 ha0) c106_77) c113_78 dX9_absorb_113 (fun H locs hP hS => ?_)
      obtain ⟨M113_79, hM, h⟩ := sm_lt h
      rw [← hM] at hP; clear hM
      refine lv_aload_n hx hb dX9_absorb_114 rfl (lv_at hl 2 rfl) ?_
      refine sm_get (ci := 9) (C := RX9) (T := TX9) (N := 5) (v := .ref (adr (a0 + 21))) hx hb hts hin9 hown hE hP ha0 rfl rfl 4 (by decide) (hts (.fieldLink RX9 19 "OrderMover$Span" "pivots" "[I") (by decide +kernel)) (fun _ h9 => h9) rfl dX9_absorb_115 ?_
      refine lv_aload_n hx hb dX9_absorb_118 rfl (lv_at hl 2 rfl) ?_
      refine sm_get (ci := 9) (C := RX9) (T := TX9) (N := 5) (v := .int (M113_79 a0 0)) hx hb hts hin9 hown hE hP ha0 rfl rfl 0 (by decide) (hts (.fieldLink RX9 23 "OrderMover$Span" "howMany" "I") (by decide +kernel)) (fun _ h9 => h9) rfl dX9_absorb_119 ?_
      refine lv_iload_n hx hb dX9_absorb_122 rfl (lv_at hl 1 rfl) ?_
      obtain ⟨c123_80, h⟩ := sm_ck h
      refine sm_iast hx hb hE hJ hP hS (t9_4 ha0) c123_80 dX9_absorb_123 (fun H locs hP hS => ?_)
      obtain ⟨M123_81, hM, h⟩ := sm_lt h
      rw [← hM] at hP; clear hM
      refine lv_aload_n hx hb dX9_absorb_124 rfl (lv_at hl 2 rfl) ?_
      refine lv_dup hx hb dX9_absorb_125 rfl ?_
      refine sm_get (ci := 9) (C := RX9) (T := TX9) (N := 5) (v := .int (M123_81 a0 0)) hx hb hts hin9 hown hE hP ha0 rfl rfl 0 (by decide) (hts (.fieldLink RX9 23 "OrderMover$Span" "howMany" "I") (by decide +kernel)) (fun _ h9 => h9) rfl dX9_absorb_126 ?_
      refine lv_iconst (v := (1 : Int32)) hx hb dX9_absorb_129 (by decide) ?_
      refine lv_iadd hx hb dX9_absorb_130 ?_
      refine sm_put (ci := 9) (C := RX9) (T := TX9) (N := 5) (ty := .int) hx hb hts hin9 tyX9 tyX9_ok nmX9 hown hE hJ hP hS ha0 rfl rfl 0 (by decide) (hts (.fieldLink RX9 23 "OrderMover$Span" "howMany" "I") (by decide +kernel)) (fun _ h9 => h9) rfl (by decide +kernel) rfl rfl (Nat.le_of_ble_eq_true rfl) rfl dX9_absorb_131 (fun H locs hP hS => ?_)
      obtain ⟨M131_82, hM, h⟩ := sm_lt h
      rw [← hM] at hP; clear hM
      cases h
      exact sm_vret hx hb hr hlocks hP hS dX9_absorb_134
    · rw [if_neg c15_56] at h
      cases h
      exact sm_vret hx hb hr hlocks hP hS dX9_absorb_18
set_option maxHeartbeats 4000000 in
set_option maxRecDepth 100000 in
theorem k_X1_has (l : Launch) (D : va_G) (cA : Nat → ClassId) (adr : Nat → Nat) (hJ : smJ 1 adr) (a0 : Nat) (x1 : Int32) (x2 : Int32) (ha0 : smT 1 a0 1) (M : smM) (v1 : Int32) (h : m_X1_has a0 x1 x2 M = some v1) : Met l yX1_has wsX1_has ({ frames := 0, cells := 0, slots := 0, locals := 0 }) (smPc D cA 1 adr M [.ref (adr a0), .int x1, .int x2]) (smQi D cA 1 adr M v1) 0 0 (smA 1 adr) := by
  refine Met.ofW (cc := cX1_has) (maxL := 4) (ret := (some .boolean)) (by decide) rfl ?_
  intro p e s m args below meth c s₁ B hml hv
  obtain ⟨rfl, hE, hP⟩ := hv
  have hx := B.exec
  have hb := B.bytes
  have hr := B.returns
  have hts := atoms_spec (ws := wsX1_has) B.pre
  have hown : s.vm.findClass RX1 = some m.cls := findClass_of_methodNamed B.named
  have hlocks := B.notSynchronized
  have hS : va_S (smA 1 adr) s.heap s.heap [] := va_S.rf
  have hP : smP D cA 1 adr M s.heap := hP
  have hl := lv_entry ([.ref (adr a0), .int x1, .int x2]) (n := 4) (Nat.le_of_ble_eq_true rfl)
  rw [lg_entry_eq]
  generalize (lg_sl ([.ref (adr a0), .int x1, .int x2]) ++ List.replicate (4 - (lg_sl ([.ref (adr a0), .int x1, .int x2])).length) Slot.unset).toArray = ls at hl ⊢
  have hl : lv_has ls 4 [(0, .ref (adr a0)), (1, .int x1), (2, .int x2)] := hl
  unfold m_X1_has at h
  have hin1 : ∀ w ∈ u_ws RX1 TX1 6, w ∈ wsX1_has := by decide +kernel
  refine lv_iconst (v := (0 : Int32)) hx hb dX1_has_0 (by decide) ?_
  refine lv_istore_n (lv' := [(3, .int (0 : Int32)), (0, .ref (adr a0)), (1, .int x1), (2, .int x2)]) hx hb dX1_has_1 rfl hl (by decide) rfl (fun ls hl => ?_)
  refine sm_lp (b := fun rc q => m_X1_has_b2 a0 x1 x2 M rc q) (P := fun (q : Int32) H locs ls => smP D cA 1 adr M H ∧ va_S (smA 1 adr) s.heap H locs ∧ lv_has ls 4 [(0, .ref (adr a0)), (1, .int x1), (2, .int x2), (3, .int q)]) (pc := 2) ?_ _ _ _ _ _ h ⟨hP, hS, lv_sub hl [1, 2, 3, 0] rfl⟩
  intro rc2_84 ih2_85 q H locs ls h hI
  obtain ⟨x3_2_83, hq⟩ : ∃ y, y = q := ⟨_, rfl⟩; subst hq
  obtain ⟨hP, hS, hl⟩ := hI
  have hP : smP D cA 1 adr M H := hP
  have hl : lv_has ls 4 [(0, .ref (adr a0)), (1, .int x1), (2, .int x2), (3, .int x3_2_83)] := hl
  have h : m_X1_has_b2 a0 x1 x2 M rc2_84 x3_2_83 = some _ := h
  unfold m_X1_has_b2 at h
  refine lv_iload_n hx hb dX1_has_2 rfl (lv_at hl 3 rfl) ?_
  refine lv_aload_n hx hb dX1_has_3 rfl (lv_at hl 0 rfl) ?_
  refine sm_get (ci := 1) (C := RX1) (T := TX1) (N := 6) (v := .int (M a0 0)) hx hb hts hin1 hown hE hP ha0 rfl rfl 0 (by decide) (hts (.fieldLink RX1 28 "OrderMover$Border" "howMany" "I") (by decide +kernel)) (fun _ h9 => h9) rfl dX1_has_4 ?_
  refine lv_icmp_ge (tgt := 38) hx hb dX1_has_7 (by decide) (fun c7_86 => ?_) (fun c7_86 => ?_)
  · rw [if_pos c7_86] at h
    refine lv_iconst (v := (0 : Int32)) hx hb dX1_has_38 (by decide) ?_
    cases h
    exact sm_zret (by first | rfl | decide) hx hb hr hlocks hP hS dX1_has_39
  · rw [if_neg c7_86] at h
    refine lv_aload_n hx hb dX1_has_10 rfl (lv_at hl 0 rfl) ?_
    refine sm_get (ci := 1) (C := RX1) (T := TX1) (N := 6) (v := .ref (adr (a0 + 1))) hx hb hts hin1 hown hE hP ha0 rfl rfl 1 (by decide) (hts (.fieldLink RX1 11 "OrderMover$Border" "xs" "[I") (by decide +kernel)) (fun _ h9 => h9) rfl dX1_has_11 ?_
    refine lv_iload_n hx hb dX1_has_14 rfl (lv_at hl 3 rfl) ?_
    obtain ⟨c15_87, h⟩ := sm_ck h
    refine sm_iald hx hb hE hP (t1_1 ha0) c15_87 dX1_has_15 ?_
    refine lv_iload_n hx hb dX1_has_16 rfl (lv_at hl 1 rfl) ?_
    refine lv_icmp_ne (tgt := 32) hx hb dX1_has_17 (by decide) (fun c17_88 => ?_) (fun c17_88 => ?_)
    · rw [if_neg c17_88] at h
      refine lv_iinc (v := (x3_2_83 + (1 : Int32))) (lv' := [(3, .int (x3_2_83 + (1 : Int32))), (0, .ref (adr a0)), (1, .int x1), (2, .int x2)]) hx hb dX1_has_32 hl (k := 3) rfl (congrArg (fun z => x3_2_83 + z) (by decide)) (by decide) rfl (fun ls hl => ?_)
      refine lv_goto (tgt := 2) hx hb dX1_has_35 (by decide) ?_
      exact ih2_85 (x3_2_83 + (1 : Int32)) _ _ _ h ⟨hP, hS, lv_sub hl [1, 2, 3, 0] rfl⟩
    · rw [if_pos c17_88] at h
      refine lv_aload_n hx hb dX1_has_20 rfl (lv_at hl 0 rfl) ?_
      refine sm_get (ci := 1) (C := RX1) (T := TX1) (N := 6) (v := .ref (adr (a0 + 2))) hx hb hts hin1 hown hE hP ha0 rfl rfl 2 (by decide) (hts (.fieldLink RX1 15 "OrderMover$Border" "ys" "[I") (by decide +kernel)) (fun _ h9 => h9) rfl dX1_has_21 ?_
      refine lv_iload_n hx hb dX1_has_24 rfl (lv_at hl 3 rfl) ?_
      obtain ⟨c25_89, h⟩ := sm_ck h
      refine sm_iald hx hb hE hP (t1_2 ha0) c25_89 dX1_has_25 ?_
      refine lv_iload_n hx hb dX1_has_26 rfl (lv_at hl 2 rfl) ?_
      refine lv_icmp_ne (tgt := 32) hx hb dX1_has_27 (by decide) (fun c27_90 => ?_) (fun c27_90 => ?_)
      · rw [if_neg c27_90] at h
        refine lv_iinc (v := (x3_2_83 + (1 : Int32))) (lv' := [(3, .int (x3_2_83 + (1 : Int32))), (0, .ref (adr a0)), (1, .int x1), (2, .int x2)]) hx hb dX1_has_32 hl (k := 3) rfl (congrArg (fun z => x3_2_83 + z) (by decide)) (by decide) rfl (fun ls hl => ?_)
        refine lv_goto (tgt := 2) hx hb dX1_has_35 (by decide) ?_
        exact ih2_85 (x3_2_83 + (1 : Int32)) _ _ _ h ⟨hP, hS, lv_sub hl [1, 2, 3, 0] rfl⟩
      · rw [if_pos c27_90] at h
        refine lv_iconst (v := (1 : Int32)) hx hb dX1_has_30 (by decide) ?_
        cases h
        exact sm_zret (by first | rfl | decide) hx hb hr hlocks hP hS dX1_has_31
set_option maxHeartbeats 4000000 in
set_option maxRecDepth 100000 in
theorem k_X1_bring (l : Launch) (D : va_G) (cA : Nat → ClassId) (adr : Nat → Nat) (hJ : smJ 1 adr) (a0 : Nat) (x1 : Int32) (x2 : Int32) (x3 : Int32) (x4 : Int32) (ha0 : smT 1 a0 1) (M : smM) (M1 : smM) (h : m_X1_bring a0 x1 x2 x3 x4 M = some M1) : Met l yX1_bring wsX1_bring ({ frames := 1, cells := 0, slots := 0, locals := 23 }) (smPc D cA 1 adr M [.ref (adr a0), .int x1, .int x2, .int x3, .int x4]) (smQv D cA 1 adr M1) 0 0 (smA 1 adr) := by
  refine Met.ofW (cc := cX1_bring) (maxL := 5) (ret := none) (by decide) rfl ?_
  intro p e s m args below meth c s₁ B hml hv
  obtain ⟨rfl, hE, hP⟩ := hv
  have hx := B.exec
  have hb := B.bytes
  have hr := B.returns
  have hts := atoms_spec (ws := wsX1_bring) B.pre
  have hown : s.vm.findClass RX1 = some m.cls := findClass_of_methodNamed B.named
  have hlocks := B.notSynchronized
  have hS : va_S (smA 1 adr) s.heap s.heap [] := va_S.rf
  have hP : smP D cA 1 adr M s.heap := hP
  have hl := lv_entry ([.ref (adr a0), .int x1, .int x2, .int x3, .int x4]) (n := 5) (Nat.le_of_ble_eq_true rfl)
  rw [lg_entry_eq]
  generalize (lg_sl ([.ref (adr a0), .int x1, .int x2, .int x3, .int x4]) ++ List.replicate (5 - (lg_sl ([.ref (adr a0), .int x1, .int x2, .int x3, .int x4])).length) Slot.unset).toArray = ls at hl ⊢
  have hl : lv_has ls 5 [(0, .ref (adr a0)), (1, .int x1), (2, .int x2), (3, .int x3), (4, .int x4)] := hl
  unfold m_X1_bring at h
  have hin1 : ∀ w ∈ u_ws RX1 TX1 6, w ∈ wsX1_bring := by decide +kernel
  refine lv_aload_n hx hb dX1_bring_0 rfl (lv_at hl 0 rfl) ?_
  refine sm_get (ci := 1) (C := RX1) (T := TX1) (N := 6) (v := .int (M a0 0)) hx hb hts hin1 hown hE hP ha0 rfl rfl 0 (by decide) (hts (.fieldLink RX1 28 "OrderMover$Border" "howMany" "I") (by decide +kernel)) (fun _ h9 => h9) rfl dX1_bring_1 ?_
  refine lv_bipush (v := (19 : Int32)) hx hb dX1_bring_4 (by decide) ?_
  refine lv_icmp_ge (tgt := 18) hx hb dX1_bring_6 (by decide) (fun c6_91 => ?_) (fun c6_91 => ?_)
  · rw [if_pos c6_91] at h
    cases h
    exact sm_vret hx hb hr hlocks hP hS dX1_bring_18
  · rw [if_neg c6_91] at h
    refine lv_aload_n hx hb dX1_bring_9 rfl (lv_at hl 0 rfl) ?_
    refine lv_iload_n hx hb dX1_bring_10 rfl (lv_at hl 1 rfl) ?_
    refine lv_iload_n hx hb dX1_bring_11 rfl (lv_at hl 2 rfl) ?_
    obtain ⟨v12_92, hc12_94, h⟩ := sm_bd h
    refine sm_ci (va_runV (As := [.int x1, .int x2]) (rest := []) ⟨hx, hb, hml, hown, hts⟩ (k_X1_has l D cA adr hJ a0 x1 x2 ha0 M v12_92 hc12_94) (cwV 2 hts gX1_bring_X1_has rfl rfl rfl (by decide +kernel) ⟨Nat.le_of_ble_eq_true rfl, Nat.le_of_ble_eq_true rfl⟩) ⟨smPc_bl, smRv hE hP ha0 rfl (ci := 1) (q := (RX1, TX1, 6)) rfl, smPc_in [.ref (adr a0), .int x1, .int x2] hE hP⟩ rfl rfl hl.1 rfl (lv_room (Nat.le_of_ble_eq_true rfl)) dX1_bring_12 ⟨Nat.zero_le _, Nat.zero_le _⟩) hS (fun H locs hP hS => ?_)
    refine lv_if_eq (tgt := 19) hx hb dX1_bring_15 (by decide) (fun c15_95 => ?_) (fun c15_95 => ?_)
    · rw [if_pos c15_95] at h
      refine lv_aload_n hx hb dX1_bring_19 rfl (lv_at hl 0 rfl) ?_
      refine sm_get (ci := 1) (C := RX1) (T := TX1) (N := 6) (v := .ref (adr (a0 + 1))) hx hb hts hin1 hown hE hP ha0 rfl rfl 1 (by decide) (hts (.fieldLink RX1 11 "OrderMover$Border" "xs" "[I") (by decide +kernel)) (fun _ h9 => h9) rfl dX1_bring_20 ?_
      refine lv_aload_n hx hb dX1_bring_23 rfl (lv_at hl 0 rfl) ?_
      refine sm_get (ci := 1) (C := RX1) (T := TX1) (N := 6) (v := .int (M a0 0)) hx hb hts hin1 hown hE hP ha0 rfl rfl 0 (by decide) (hts (.fieldLink RX1 28 "OrderMover$Border" "howMany" "I") (by decide +kernel)) (fun _ h9 => h9) rfl dX1_bring_24 ?_
      refine lv_iload_n hx hb dX1_bring_27 rfl (lv_at hl 1 rfl) ?_
      obtain ⟨c28_96, h⟩ := sm_ck h
      refine sm_iast hx hb hE hJ hP hS (t1_1 ha0) c28_96 dX1_bring_28 (fun H locs hP hS => ?_)
      obtain ⟨M28_97, hM, h⟩ := sm_lt h
      rw [← hM] at hP; clear hM
      refine lv_aload_n hx hb dX1_bring_29 rfl (lv_at hl 0 rfl) ?_
      refine sm_get (ci := 1) (C := RX1) (T := TX1) (N := 6) (v := .ref (adr (a0 + 2))) hx hb hts hin1 hown hE hP ha0 rfl rfl 2 (by decide) (hts (.fieldLink RX1 15 "OrderMover$Border" "ys" "[I") (by decide +kernel)) (fun _ h9 => h9) rfl dX1_bring_30 ?_
      refine lv_aload_n hx hb dX1_bring_33 rfl (lv_at hl 0 rfl) ?_
      refine sm_get (ci := 1) (C := RX1) (T := TX1) (N := 6) (v := .int (M28_97 a0 0)) hx hb hts hin1 hown hE hP ha0 rfl rfl 0 (by decide) (hts (.fieldLink RX1 28 "OrderMover$Border" "howMany" "I") (by decide +kernel)) (fun _ h9 => h9) rfl dX1_bring_34 ?_
      refine lv_iload_n hx hb dX1_bring_37 rfl (lv_at hl 2 rfl) ?_
      obtain ⟨c38_98, h⟩ := sm_ck h
      refine sm_iast hx hb hE hJ hP hS (t1_2 ha0) c38_98 dX1_bring_38 (fun H locs hP hS => ?_)
      obtain ⟨M38_99, hM, h⟩ := sm_lt h
      rw [← hM] at hP; clear hM
      refine lv_aload_n hx hb dX1_bring_39 rfl (lv_at hl 0 rfl) ?_
      refine sm_get (ci := 1) (C := RX1) (T := TX1) (N := 6) (v := .ref (adr (a0 + 3))) hx hb hts hin1 hown hE hP ha0 rfl rfl 3 (by decide) (hts (.fieldLink RX1 18 "OrderMover$Border" "below" "[I") (by decide +kernel)) (fun _ h9 => h9) rfl dX1_bring_40 ?_
      refine lv_aload_n hx hb dX1_bring_43 rfl (lv_at hl 0 rfl) ?_
      refine sm_get (ci := 1) (C := RX1) (T := TX1) (N := 6) (v := .int (M38_99 a0 0)) hx hb hts hin1 hown hE hP ha0 rfl rfl 0 (by decide) (hts (.fieldLink RX1 28 "OrderMover$Border" "howMany" "I") (by decide +kernel)) (fun _ h9 => h9) rfl dX1_bring_44 ?_
      refine lv_iload_n hx hb dX1_bring_47 rfl (lv_at hl 3 rfl) ?_
      obtain ⟨c48_100, h⟩ := sm_ck h
      refine sm_iast hx hb hE hJ hP hS (t1_3 ha0) c48_100 dX1_bring_48 (fun H locs hP hS => ?_)
      obtain ⟨M48_101, hM, h⟩ := sm_lt h
      rw [← hM] at hP; clear hM
      refine lv_aload_n hx hb dX1_bring_49 rfl (lv_at hl 0 rfl) ?_
      refine sm_get (ci := 1) (C := RX1) (T := TX1) (N := 6) (v := .ref (adr (a0 + 4))) hx hb hts hin1 hown hE hP ha0 rfl rfl 4 (by decide) (hts (.fieldLink RX1 21 "OrderMover$Border" "unknowns" "[I") (by decide +kernel)) (fun _ h9 => h9) rfl dX1_bring_50 ?_
      refine lv_aload_n hx hb dX1_bring_53 rfl (lv_at hl 0 rfl) ?_
      refine sm_get (ci := 1) (C := RX1) (T := TX1) (N := 6) (v := .int (M48_101 a0 0)) hx hb hts hin1 hown hE hP ha0 rfl rfl 0 (by decide) (hts (.fieldLink RX1 28 "OrderMover$Border" "howMany" "I") (by decide +kernel)) (fun _ h9 => h9) rfl dX1_bring_54 ?_
      refine lv_iload hx hb dX1_bring_57 (lv_at hl 4 rfl) ?_
      obtain ⟨c59_102, h⟩ := sm_ck h
      refine sm_iast hx hb hE hJ hP hS (t1_4 ha0) c59_102 dX1_bring_59 (fun H locs hP hS => ?_)
      obtain ⟨M59_103, hM, h⟩ := sm_lt h
      rw [← hM] at hP; clear hM
      refine lv_aload_n hx hb dX1_bring_60 rfl (lv_at hl 0 rfl) ?_
      refine sm_get (ci := 1) (C := RX1) (T := TX1) (N := 6) (v := .ref (adr (a0 + 5))) hx hb hts hin1 hown hE hP ha0 rfl rfl 5 (by decide) (hts (.fieldLink RX1 24 "OrderMover$Border" "passed" "[Z") (by decide +kernel)) (fun _ h9 => h9) rfl dX1_bring_61 ?_
      refine lv_aload_n hx hb dX1_bring_64 rfl (lv_at hl 0 rfl) ?_
      refine sm_get (ci := 1) (C := RX1) (T := TX1) (N := 6) (v := .int (M59_103 a0 0)) hx hb hts hin1 hown hE hP ha0 rfl rfl 0 (by decide) (hts (.fieldLink RX1 28 "OrderMover$Border" "howMany" "I") (by decide +kernel)) (fun _ h9 => h9) rfl dX1_bring_65 ?_
      refine lv_iconst (v := (0 : Int32)) hx hb dX1_bring_68 (by decide) ?_
      obtain ⟨c69_104, h⟩ := sm_ck h
      refine sm_zast (y := (0 : Int32)) hx hb hE hJ hP hS (t1_5 ha0) (by decide) c69_104 dX1_bring_69 (fun H locs hP hS => ?_)
      obtain ⟨M69_105, hM, h⟩ := sm_lt h
      rw [← hM] at hP; clear hM
      refine lv_aload_n hx hb dX1_bring_70 rfl (lv_at hl 0 rfl) ?_
      refine lv_dup hx hb dX1_bring_71 rfl ?_
      refine sm_get (ci := 1) (C := RX1) (T := TX1) (N := 6) (v := .int (M69_105 a0 0)) hx hb hts hin1 hown hE hP ha0 rfl rfl 0 (by decide) (hts (.fieldLink RX1 28 "OrderMover$Border" "howMany" "I") (by decide +kernel)) (fun _ h9 => h9) rfl dX1_bring_72 ?_
      refine lv_iconst (v := (1 : Int32)) hx hb dX1_bring_75 (by decide) ?_
      refine lv_iadd hx hb dX1_bring_76 ?_
      refine sm_put (ci := 1) (C := RX1) (T := TX1) (N := 6) (ty := .int) hx hb hts hin1 tyX1 tyX1_ok nmX1 hown hE hJ hP hS ha0 rfl rfl 0 (by decide) (hts (.fieldLink RX1 28 "OrderMover$Border" "howMany" "I") (by decide +kernel)) (fun _ h9 => h9) rfl (by decide +kernel) rfl rfl (Nat.le_of_ble_eq_true rfl) rfl dX1_bring_77 (fun H locs hP hS => ?_)
      obtain ⟨M77_106, hM, h⟩ := sm_lt h
      rw [← hM] at hP; clear hM
      cases h
      exact sm_vret hx hb hr hlocks hP hS dX1_bring_80
    · rw [if_neg c15_95] at h
      cases h
      exact sm_vret hx hb hr hlocks hP hS dX1_bring_18
set_option maxHeartbeats 4000000 in
set_option maxRecDepth 100000 in
theorem k_X6_formAt (l : Launch) (D : va_G) (cA : Nat → ClassId) (adr : Nat → Nat) (hJ : smJ 1 adr) (a0 : Nat) (x1 : Int32) (x2 : Int32) (ha0 : smT 1 a0 6) (M : smM) (v1 : Nat) (h : m_X6_formAt a0 x1 x2 M = some v1) : Met l yX6_formAt wsX6_formAt ({ frames := 0, cells := 0, slots := 0, locals := 0 }) (smPc D cA 1 adr M [.ref (adr a0), .int x1, .int x2]) (smQr D cA 1 adr M v1 20) 0 0 (smA 1 adr) := by
  refine Met.ofW (cc := cX6_formAt) (maxL := 4) (ret := (some (.array .int))) (by decide) rfl ?_
  intro p e s m args below meth c s₁ B hml hv
  obtain ⟨rfl, hE, hP⟩ := hv
  have hx := B.exec
  have hb := B.bytes
  have hr := B.returns
  have hts := atoms_spec (ws := wsX6_formAt) B.pre
  have hown : s.vm.findClass RX6 = some m.cls := findClass_of_methodNamed B.named
  have hlocks := B.notSynchronized
  have hS : va_S (smA 1 adr) s.heap s.heap [] := va_S.rf
  have hP : smP D cA 1 adr M s.heap := hP
  have hl := lv_entry ([.ref (adr a0), .int x1, .int x2]) (n := 4) (Nat.le_of_ble_eq_true rfl)
  rw [lg_entry_eq]
  generalize (lg_sl ([.ref (adr a0), .int x1, .int x2]) ++ List.replicate (4 - (lg_sl ([.ref (adr a0), .int x1, .int x2])).length) Slot.unset).toArray = ls at hl ⊢
  have hl : lv_has ls 4 [(0, .ref (adr a0)), (1, .int x1), (2, .int x2)] := hl
  unfold m_X6_formAt at h
  have hin6 : ∀ w ∈ u_ws RX6 TX6 5, w ∈ wsX6_formAt := by decide +kernel
  refine lv_iload_n hx hb dX6_formAt_0 rfl (lv_at hl 1 rfl) ?_
  refine sm_jn (x := v1) (T := fun (q : Int32) => m_X6_formAt_j25 a0 x1 x2 M q) (P := fun (q : Int32) H locs ls => smP D cA 1 adr M H ∧ va_S (smA 1 adr) s.heap H locs ∧ lv_has ls 4 [(0, .ref (adr a0)), (1, .int x1), (2, .int x2)]) (st := fun (q : Int32) => [.int q]) (pc := 25) ?_ (fun J25_108 => ?_)
  · intro q H locs ls h hI
    obtain ⟨s0_25_107, hq⟩ : ∃ y, y = q := ⟨_, rfl⟩; subst hq
    obtain ⟨hP, hS, hl⟩ := hI
    have hP : smP D cA 1 adr M H := hP
    have hl : lv_has ls 4 [(0, .ref (adr a0)), (1, .int x1), (2, .int x2)] := hl
    have h : m_X6_formAt_j25 a0 x1 x2 M s0_25_107 = some _ := h
    unfold m_X6_formAt_j25 at h
    refine W.eq (g2 := F0 m 25 ls [.int s0_25_107]) rfl ?_
    refine lv_istore_n (lv' := [(3, .int s0_25_107), (0, .ref (adr a0)), (1, .int x1), (2, .int x2)]) hx hb dX6_formAt_25 rfl hl (by decide) rfl (fun ls hl => ?_)
    refine lv_iload_n hx hb dX6_formAt_26 rfl (lv_at hl 0 rfl) ?_
    refine lv_if_eq (tgt := 44) hx hb dX6_formAt_27 (by decide) (fun c27_109 => ?_) (fun c27_109 => ?_)
    · rw [if_pos c27_109] at h
      refine lv_aload_n hx hb dX6_formAt_44 rfl (lv_at hl 1 rfl) ?_
      refine sm_get (ci := 6) (C := RX6) (T := TX6) (N := 5) (v := .ref (adr (a0 + 1))) hx hb hts hin6 hown hE hP ha0 rfl rfl 3 (by decide) (hts (.fieldLink RX6 13 "OrderMover$Quotient" "forms" "[[I") (by decide +kernel)) (fun _ h9 => h9) rfl dX6_formAt_45 ?_
      refine lv_iconst (v := (0 : Int32)) hx hb dX6_formAt_48 (by decide) ?_
      obtain ⟨c49_110, h⟩ := sm_ck h
      refine sm_aald22 hx hb hE hP (t6_3 ha0) c49_110 dX6_formAt_49 ?_
      cases h
      exact sm_aret hx hb hr (by first | exact Or.inl ⟨_, rfl⟩ | exact Or.inr ⟨_, rfl⟩) hlocks (te22 (t6_3 ha0) c49_110) hP hS dX6_formAt_50
    · rw [if_neg c27_109] at h
      refine lv_aload_n hx hb dX6_formAt_30 rfl (lv_at hl 1 rfl) ?_
      refine sm_get (ci := 6) (C := RX6) (T := TX6) (N := 5) (v := .ref (adr (a0 + 1))) hx hb hts hin6 hown hE hP ha0 rfl rfl 3 (by decide) (hts (.fieldLink RX6 13 "OrderMover$Quotient" "forms" "[[I") (by decide +kernel)) (fun _ h9 => h9) rfl dX6_formAt_31 ?_
      refine lv_bipush (v := (6 : Int32)) hx hb dX6_formAt_34 (by decide) ?_
      refine lv_iload_n hx hb dX6_formAt_36 rfl (lv_at hl 3 rfl) ?_
      refine lv_imul hx hb dX6_formAt_37 ?_
      refine lv_iload_n hx hb dX6_formAt_38 rfl (lv_at hl 2 rfl) ?_
      refine lv_iadd hx hb dX6_formAt_39 ?_
      obtain ⟨c40_111, h⟩ := sm_ck h
      refine sm_aald22 hx hb hE hP (t6_3 ha0) c40_111 dX6_formAt_40 ?_
      refine lv_goto (tgt := 50) hx hb dX6_formAt_41 (by decide) ?_
      cases h
      exact sm_aret hx hb hr (by first | exact Or.inl ⟨_, rfl⟩ | exact Or.inr ⟨_, rfl⟩) hlocks (te22 (t6_3 ha0) c40_111) hP hS dX6_formAt_50
  refine sm_jn (x := v1) (T := fun (q : Unit) => m_X6_formAt_j24 a0 x1 x2 M) (P := fun (q : Unit) H locs ls => smP D cA 1 adr M H ∧ va_S (smA 1 adr) s.heap H locs ∧ lv_has ls 4 [(0, .ref (adr a0)), (1, .int x1), (2, .int x2)]) (st := fun (q : Unit) => []) (pc := 24) ?_ (fun J24_112 => ?_)
  · intro q H locs ls h hI
    obtain ⟨hP, hS, hl⟩ := hI
    have hP : smP D cA 1 adr M H := hP
    have hl : lv_has ls 4 [(0, .ref (adr a0)), (1, .int x1), (2, .int x2)] := hl
    have h : m_X6_formAt_j24 a0 x1 x2 M = some _ := h
    unfold m_X6_formAt_j24 at h
    refine W.eq (g2 := F0 m 24 ls []) rfl ?_
    refine lv_iconst (v := (0 : Int32)) hx hb dX6_formAt_24 (by decide) ?_
    exact J25_108 (0 : Int32) _ _ _ h ⟨hP, hS, lv_sub hl [0, 1, 2] rfl⟩
  refine lv_if_lt (tgt := 24) hx hb dX6_formAt_1 (by decide) (fun c1_113 => ?_) (fun c1_113 => ?_)
  · rw [if_pos c1_113] at h
    exact J24_112 () _ _ _ h ⟨hP, hS, lv_sub hl [0, 1, 2] rfl⟩
  · rw [if_neg c1_113] at h
    refine lv_iload_n hx hb dX6_formAt_4 rfl (lv_at hl 1 rfl) ?_
    refine lv_bipush (v := (6 : Int32)) hx hb dX6_formAt_5 (by decide) ?_
    refine lv_icmp_ge (tgt := 24) hx hb dX6_formAt_7 (by decide) (fun c7_114 => ?_) (fun c7_114 => ?_)
    · rw [if_pos c7_114] at h
      exact J24_112 () _ _ _ h ⟨hP, hS, lv_sub hl [0, 1, 2] rfl⟩
    · rw [if_neg c7_114] at h
      refine lv_iload_n hx hb dX6_formAt_10 rfl (lv_at hl 2 rfl) ?_
      refine lv_if_lt (tgt := 24) hx hb dX6_formAt_11 (by decide) (fun c11_115 => ?_) (fun c11_115 => ?_)
      · rw [if_pos c11_115] at h
        exact J24_112 () _ _ _ h ⟨hP, hS, lv_sub hl [0, 1, 2] rfl⟩
      · rw [if_neg c11_115] at h
        refine lv_iload_n hx hb dX6_formAt_14 rfl (lv_at hl 2 rfl) ?_
        refine lv_bipush (v := (6 : Int32)) hx hb dX6_formAt_15 (by decide) ?_
        refine lv_icmp_ge (tgt := 24) hx hb dX6_formAt_17 (by decide) (fun c17_116 => ?_) (fun c17_116 => ?_)
        · rw [if_pos c17_116] at h
          exact J24_112 () _ _ _ h ⟨hP, hS, lv_sub hl [0, 1, 2] rfl⟩
        · rw [if_neg c17_116] at h
          refine lv_iconst (v := (1 : Int32)) hx hb dX6_formAt_20 (by decide) ?_
          refine lv_goto (tgt := 25) hx hb dX6_formAt_21 (by decide) ?_
          exact J25_108 (1 : Int32) _ _ _ h ⟨hP, hS, lv_sub hl [0, 1, 2] rfl⟩
