set_option maxHeartbeats 4000000 in
set_option maxRecDepth 100000 in
theorem k_X12_in (l : Launch) (D : va_G) (cA : Nat → ClassId) (adr : Nat → Nat) (hJ : smJ 2 adr) (z0 : Int64) (z2 : Int64) (z4 : Int64) (M : smM) (v1 : Int32) (h : m_X12_in z0 z2 z4 M = some v1) : Met l yX12_in wsX12_in ({ frames := 0, cells := 0, slots := 0, locals := 0 }) (smPc D cA 2 adr M [.long z0, .long z2, .long z4]) (smQi D cA 2 adr M v1) 0 0 (smA 2 adr) := by
  refine Met.ofW (cc := cX12_in) (maxL := 6) (ret := (some .boolean)) (by decide) rfl ?_
  intro p e s m args below meth c s₁ B hml hv
  obtain ⟨rfl, hE, hP⟩ := hv
  have hx := B.exec
  have hb := B.bytes
  have hr := B.returns
  have hts := atoms_spec (ws := wsX12_in) B.pre
  have hown : s.vm.findClass RX12 = some m.cls := findClass_of_methodNamed B.named
  have hlocks := B.notSynchronized
  have hS : va_S (smA 2 adr) s.heap s.heap [] := va_S.rf
  have hP : smP D cA 2 adr M s.heap := hP
  have hl := lv_entry ([.long z0, .long z2, .long z4]) (n := 6) (Nat.le_of_ble_eq_true rfl)
  rw [lg_entry_eq]
  generalize (lg_sl ([.long z0, .long z2, .long z4]) ++ List.replicate (6 - (lg_sl ([.long z0, .long z2, .long z4])).length) Slot.unset).toArray = ls at hl ⊢
  have hl : lv_has ls 6 [(0, .long z0), (2, .long z2), (4, .long z4)] := hl
  unfold m_X12_in at h
  refine lv_lload_n hx hb dX12_in_0 rfl (lv_at hl 0 rfl) ?_
  refine lv_lload_n hx hb dX12_in_1 rfl (lv_at hl 1 rfl) ?_
  refine W.lcmp hx hb dX12_in_2 ?_
  refine lv_if_lt (tgt := 17) hx hb dX12_in_3 (by decide) (fun c3_1817 => ?_) (fun c3_1817 => ?_)
  · rw [if_pos c3_1817] at h
    refine lv_iconst (v := (0 : Int32)) hx hb dX12_in_17 (by decide) ?_
    cases h
    exact sm_zret (by first | rfl | decide) hx hb hr hlocks hP hS dX12_in_18
  · rw [if_neg c3_1817] at h
    refine lv_lload_n hx hb dX12_in_6 rfl (lv_at hl 0 rfl) ?_
    refine lv_lload hx hb dX12_in_7 (lv_at hl 2 rfl) ?_
    refine W.lcmp hx hb dX12_in_9 ?_
    refine lv_if_gt (tgt := 17) hx hb dX12_in_10 (by decide) (fun c10_1818 => ?_) (fun c10_1818 => ?_)
    · rw [if_pos c10_1818] at h
      refine lv_iconst (v := (0 : Int32)) hx hb dX12_in_17 (by decide) ?_
      cases h
      exact sm_zret (by first | rfl | decide) hx hb hr hlocks hP hS dX12_in_18
    · rw [if_neg c10_1818] at h
      refine lv_iconst (v := (1 : Int32)) hx hb dX12_in_13 (by decide) ?_
      refine lv_goto (tgt := 18) hx hb dX12_in_14 (by decide) ?_
      cases h
      exact sm_zret (by first | rfl | decide) hx hb hr hlocks hP hS dX12_in_18
set_option maxHeartbeats 4000000 in
set_option maxRecDepth 100000 in
theorem k_X12_isSlot (l : Launch) (D : va_G) (cA : Nat → ClassId) (adr : Nat → Nat) (hJ : smJ 2 adr) (x0 : Int32) (M : smM) (v1 : Int32) (h : m_X12_isSlot x0 M = some v1) : Met l yX12_isSlot wsX12_isSlot ({ frames := 1, cells := 0, slots := 0, locals := 25 }) (smPc D cA 2 adr M [.int x0]) (smQi D cA 2 adr M v1) 0 0 (smA 2 adr) := by
  refine Met.ofW (cc := cX12_isSlot) (maxL := 1) (ret := (some .boolean)) (by decide) rfl ?_
  intro p e s m args below meth c s₁ B hml hv
  obtain ⟨rfl, hE, hP⟩ := hv
  have hx := B.exec
  have hb := B.bytes
  have hr := B.returns
  have hts := atoms_spec (ws := wsX12_isSlot) B.pre
  have hown : s.vm.findClass RX12 = some m.cls := findClass_of_methodNamed B.named
  have hlocks := B.notSynchronized
  have hS : va_S (smA 2 adr) s.heap s.heap [] := va_S.rf
  have hP : smP D cA 2 adr M s.heap := hP
  have hl := lv_entry ([.int x0]) (n := 1) (Nat.le_of_ble_eq_true rfl)
  rw [lg_entry_eq]
  generalize (lg_sl ([.int x0]) ++ List.replicate (1 - (lg_sl ([.int x0])).length) Slot.unset).toArray = ls at hl ⊢
  have hl : lv_has ls 1 [(0, .int x0)] := hl
  unfold m_X12_isSlot at h
  refine lv_iload_n hx hb dX12_isSlot_0 rfl (lv_at hl 0 rfl) ?_
  refine lv_i2l hx hb dX12_isSlot_1 rfl ?_
  refine lv_lconst (v := (0 : Int64)) hx hb dX12_isSlot_2 (by decide) ?_
  refine lv_ldc2 (v := (3 : Int64)) hx hb hown (hts (.constantLong RX12 166 (3)) (by decide +kernel)) dX12_isSlot_3 ?_
  obtain ⟨v6_1819, hc6_1821, h⟩ := sm_bd h
  refine sm_ci (va_runS (As := [.long ((x0).toInt64), .long (0 : Int64), .long (3 : Int64)]) (rest := []) ⟨hx, hb, hml, hown, hts⟩ (k_X12_in l D cA adr hJ ((x0).toInt64) (0 : Int64) (3 : Int64)  M v6_1819 hc6_1821) (va_cwS 3 hts gX12_isSlot_X12_in rfl rfl rfl (by decide +kernel) ⟨Nat.le_of_ble_eq_true rfl, Nat.le_of_ble_eq_true rfl⟩) ⟨smPc_bl, smPc_in [.long ((x0).toInt64), .long (0 : Int64), .long (3 : Int64)] hE hP⟩ rfl rfl hl.1 rfl (lv_room (Nat.le_of_ble_eq_true rfl)) dX12_isSlot_6 ⟨Nat.zero_le _, Nat.zero_le _⟩) hS (fun H locs hP hS => ?_)
  cases h
  exact sm_zret (by first | rfl | decide) hx hb hr hlocks hP hS dX12_isSlot_9
set_option maxHeartbeats 4000000 in
set_option maxRecDepth 100000 in
theorem k_X12_lacks (l : Launch) (D : va_G) (cA : Nat → ClassId) (adr : Nat → Nat) (hJ : smJ 2 adr) (a0 : Nat) (x1 : Int32) (x2 : Int32) (ha0 : smT 2 a0 12) (M : smM) (v1 : Int32) (h : m_X12_lacks a0 x1 x2 M = some v1) : Met l yX12_lacks wsX12_lacks ({ frames := 0, cells := 0, slots := 0, locals := 0 }) (smPc D cA 2 adr M [.ref (adr a0), .int x1, .int x2]) (smQi D cA 2 adr M v1) 0 0 (smA 2 adr) := by
  refine Met.ofW (cc := cX12_lacks) (maxL := 3) (ret := (some .int)) (by decide) rfl ?_
  intro p e s m args below meth c s₁ B hml hv
  obtain ⟨rfl, hE, hP⟩ := hv
  have hx := B.exec
  have hb := B.bytes
  have hr := B.returns
  have hts := atoms_spec (ws := wsX12_lacks) B.pre
  have hown : s.vm.findClass RX12 = some m.cls := findClass_of_methodNamed B.named
  have hlocks := B.notSynchronized
  have hS : va_S (smA 2 adr) s.heap s.heap [] := va_S.rf
  have hP : smP D cA 2 adr M s.heap := hP
  have hl := lv_entry ([.ref (adr a0), .int x1, .int x2]) (n := 3) (Nat.le_of_ble_eq_true rfl)
  rw [lg_entry_eq]
  generalize (lg_sl ([.ref (adr a0), .int x1, .int x2]) ++ List.replicate (3 - (lg_sl ([.ref (adr a0), .int x1, .int x2])).length) Slot.unset).toArray = ls at hl ⊢
  have hl : lv_has ls 3 [(0, .ref (adr a0)), (1, .int x1), (2, .int x2)] := hl
  unfold m_X12_lacks at h
  have hin12 : ∀ w ∈ u_ws RX12 TX12 54, w ∈ wsX12_lacks := by decide +kernel
  refine lv_aload_n hx hb dX12_lacks_0 rfl (lv_at hl 0 rfl) ?_
  refine sm_get (ci := 12) (C := RX12) (T := TX12) (N := 54) (v := .ref (adr (a0 + 2))) hx hb hts hin12 hown hE hP ha0 rfl rfl 6 (by decide) (hts (.fieldLink RX12 29 "OrderMoverModel" "kinds" "[I") (by decide +kernel)) (fun _ h9 => h9) rfl dX12_lacks_1 ?_
  refine lv_iload_n hx hb dX12_lacks_4 rfl (lv_at hl 1 rfl) ?_
  obtain ⟨c5_1822, h⟩ := sm_ck h
  refine sm_iald hx hb hE hP (t12_6 ha0) c5_1822 dX12_lacks_5 ?_
  refine lv_if_ne (tgt := 14) hx hb dX12_lacks_6 (by decide) (fun c6_1823 => ?_) (fun c6_1823 => ?_)
  · rw [if_neg c6_1823] at h
    refine lv_aload_n hx hb dX12_lacks_14 rfl (lv_at hl 0 rfl) ?_
    refine sm_get (ci := 12) (C := RX12) (T := TX12) (N := 54) (v := .ref (adr (a0 + 2))) hx hb hts hin12 hown hE hP ha0 rfl rfl 6 (by decide) (hts (.fieldLink RX12 29 "OrderMoverModel" "kinds" "[I") (by decide +kernel)) (fun _ h9 => h9) rfl dX12_lacks_15 ?_
    refine lv_iload_n hx hb dX12_lacks_18 rfl (lv_at hl 1 rfl) ?_
    obtain ⟨c19_1824, h⟩ := sm_ck h
    refine sm_iald hx hb hE hP (t12_6 ha0) c19_1824 dX12_lacks_19 ?_
    refine lv_iload_n hx hb dX12_lacks_20 rfl (lv_at hl 2 rfl) ?_
    refine lv_icmp_eq (tgt := 29) hx hb dX12_lacks_21 (by decide) (fun c21_1825 => ?_) (fun c21_1825 => ?_)
    · rw [if_pos c21_1825] at h
      refine lv_iconst (v := (0 : Int32)) hx hb dX12_lacks_29 (by decide) ?_
      cases h
      exact sm_iret hx hb hr hlocks hP hS dX12_lacks_30
    · rw [if_neg c21_1825] at h
      refine lv_bipush (v := (-12 : Int32)) hx hb dX12_lacks_24 (by decide) ?_
      refine lv_goto (tgt := 30) hx hb dX12_lacks_26 (by decide) ?_
      cases h
      exact sm_iret hx hb hr hlocks hP hS dX12_lacks_30
  · rw [if_pos c6_1823] at h
    refine lv_bipush (v := (-11 : Int32)) hx hb dX12_lacks_9 (by decide) ?_
    refine lv_goto (tgt := 30) hx hb dX12_lacks_11 (by decide) ?_
    cases h
    exact sm_iret hx hb hr hlocks hP hS dX12_lacks_30
set_option maxHeartbeats 4000000 in
set_option maxRecDepth 100000 in
theorem k_X12_comes (l : Launch) (D : va_G) (cA : Nat → ClassId) (adr : Nat → Nat) (hJ : smJ 2 adr) (a0 : Nat) (x1 : Int32) (x2 : Int32) (x3 : Int32) (ha0 : smT 2 a0 12) (M : smM) (M1 : smM) (h : m_X12_comes a0 x1 x2 x3 M = some M1) : Met l yX12_comes wsX12_comes ({ frames := 0, cells := 0, slots := 0, locals := 0 }) (smPc D cA 2 adr M [.ref (adr a0), .int x1, .int x2, .int x3]) (smQv D cA 2 adr M1) 0 0 (smA 2 adr) := by
  refine Met.ofW (cc := cX12_comes) (maxL := 6) (ret := none) (by decide) rfl ?_
  intro p e s m args below meth c s₁ B hml hv
  obtain ⟨rfl, hE, hP⟩ := hv
  have hx := B.exec
  have hb := B.bytes
  have hr := B.returns
  have hts := atoms_spec (ws := wsX12_comes) B.pre
  have hown : s.vm.findClass RX12 = some m.cls := findClass_of_methodNamed B.named
  have hlocks := B.notSynchronized
  have hS : va_S (smA 2 adr) s.heap s.heap [] := va_S.rf
  have hP : smP D cA 2 adr M s.heap := hP
  have hl := lv_entry ([.ref (adr a0), .int x1, .int x2, .int x3]) (n := 6) (Nat.le_of_ble_eq_true rfl)
  rw [lg_entry_eq]
  generalize (lg_sl ([.ref (adr a0), .int x1, .int x2, .int x3]) ++ List.replicate (6 - (lg_sl ([.ref (adr a0), .int x1, .int x2, .int x3])).length) Slot.unset).toArray = ls at hl ⊢
  have hl : lv_has ls 6 [(0, .ref (adr a0)), (1, .int x1), (2, .int x2), (3, .int x3)] := hl
  unfold m_X12_comes at h
  have hin12 : ∀ w ∈ u_ws RX12 TX12 54, w ∈ wsX12_comes := by decide +kernel
  refine lv_iconst (v := (0 : Int32)) hx hb dX12_comes_0 (by decide) ?_
  refine lv_istore (lv' := [(4, .int (0 : Int32)), (0, .ref (adr a0)), (1, .int x1), (2, .int x2), (3, .int x3)]) hx hb dX12_comes_1 hl (by decide) rfl (fun ls hl => ?_)
  refine sm_lp (b := fun rc q => m_X12_comes_b3 a0 x1 x2 x3 M rc q) (P := fun (q : Int32) H locs ls => smP D cA 2 adr M H ∧ va_S (smA 2 adr) s.heap H locs ∧ lv_has ls 6 [(0, .ref (adr a0)), (1, .int x1), (2, .int x2), (3, .int x3), (4, .int q)]) (pc := 3) ?_ _ _ _ _ _ h ⟨hP, hS, lv_sub hl [1, 2, 3, 4, 0] rfl⟩
  intro rc3_1827 ih3_1828 q H locs ls h hI
  obtain ⟨x4_3_1826, hq⟩ : ∃ y, y = q := ⟨_, rfl⟩; subst hq
  obtain ⟨hP, hS, hl⟩ := hI
  have hP : smP D cA 2 adr M H := hP
  have hl : lv_has ls 6 [(0, .ref (adr a0)), (1, .int x1), (2, .int x2), (3, .int x3), (4, .int x4_3_1826)] := hl
  have h : m_X12_comes_b3 a0 x1 x2 x3 M rc3_1827 x4_3_1826 = some _ := h
  unfold m_X12_comes_b3 at h
  refine lv_iload hx hb dX12_comes_3 (lv_at hl 4 rfl) ?_
  refine lv_aload_n hx hb dX12_comes_5 rfl (lv_at hl 0 rfl) ?_
  refine sm_get (ci := 12) (C := RX12) (T := TX12) (N := 54) (v := .int (M a0 52)) hx hb hts hin12 hown hE hP ha0 rfl rfl 52 (by decide) (hts (.fieldLink RX12 308 "OrderMoverModel" "makesMany" "I") (by decide +kernel)) (fun _ h9 => h9) rfl dX12_comes_6 ?_
  refine sm_jn (x := M1) (T := fun (q : Unit) => m_X12_comes_j51 a0 x1 x2 x3 x4_3_1826 M rc3_1827) (P := fun (q : Unit) H locs ls => smP D cA 2 adr M H ∧ va_S (smA 2 adr) s.heap H locs ∧ lv_has ls 6 [(0, .ref (adr a0)), (1, .int x1), (2, .int x2), (3, .int x3), (4, .int x4_3_1826)]) (st := fun (q : Unit) => []) (pc := 51) ?_ (fun J51_1829 => ?_)
  · intro q H locs ls h hI
    obtain ⟨hP, hS, hl⟩ := hI
    have hP : smP D cA 2 adr M H := hP
    have hl : lv_has ls 6 [(0, .ref (adr a0)), (1, .int x1), (2, .int x2), (3, .int x3), (4, .int x4_3_1826)] := hl
    have h : m_X12_comes_j51 a0 x1 x2 x3 x4_3_1826 M rc3_1827 = some _ := h
    unfold m_X12_comes_j51 at h
    refine W.eq (g2 := F0 m 51 ls []) rfl ?_
    refine lv_iload hx hb dX12_comes_51 (lv_at hl 4 rfl) ?_
    refine lv_aload_n hx hb dX12_comes_53 rfl (lv_at hl 0 rfl) ?_
    refine sm_get (ci := 12) (C := RX12) (T := TX12) (N := 54) (v := .int (M a0 52)) hx hb hts hin12 hown hE hP ha0 rfl rfl 52 (by decide) (hts (.fieldLink RX12 308 "OrderMoverModel" "makesMany" "I") (by decide +kernel)) (fun _ h9 => h9) rfl dX12_comes_54 ?_
    refine sm_jn (x := M1) (T := fun (q : smM) => m_X12_comes_j183 a0 x1 x4_3_1826 rc3_1827 q) (P := fun (q : smM) H locs ls => smP D cA 2 adr q H ∧ va_S (smA 2 adr) s.heap H locs ∧ lv_has ls 6 [(0, .ref (adr a0)), (1, .int x1), (4, .int x4_3_1826)]) (st := fun (q : smM) => []) (pc := 183) ?_ (fun J183_1831 => ?_)
    · intro q H locs ls h hI
      obtain ⟨M183_1830, hq⟩ : ∃ y, y = q := ⟨_, rfl⟩; subst hq
      obtain ⟨hP, hS, hl⟩ := hI
      have hP : smP D cA 2 adr M183_1830 H := hP
      have hl : lv_has ls 6 [(0, .ref (adr a0)), (1, .int x1), (4, .int x4_3_1826)] := hl
      have h : m_X12_comes_j183 a0 x1 x4_3_1826 rc3_1827 M183_1830 = some _ := h
      unfold m_X12_comes_j183 at h
      refine W.eq (g2 := F0 m 183 ls []) rfl ?_
      refine lv_aload_n hx hb dX12_comes_183 rfl (lv_at hl 0 rfl) ?_
      refine sm_get (ci := 12) (C := RX12) (T := TX12) (N := 54) (v := .ref (adr (a0 + 37))) hx hb hts hin12 hown hE hP ha0 rfl rfl 49 (by decide) (hts (.fieldLink RX12 135 "OrderMoverModel" "makes" "[I") (by decide +kernel)) (fun _ h9 => h9) rfl dX12_comes_184 ?_
      refine lv_iload hx hb dX12_comes_187 (lv_at hl 2 rfl) ?_
      refine lv_aload_n hx hb dX12_comes_189 rfl (lv_at hl 0 rfl) ?_
      refine sm_get (ci := 12) (C := RX12) (T := TX12) (N := 54) (v := .ref (adr (a0 + 37))) hx hb hts hin12 hown hE hP ha0 rfl rfl 49 (by decide) (hts (.fieldLink RX12 135 "OrderMoverModel" "makes" "[I") (by decide +kernel)) (fun _ h9 => h9) rfl dX12_comes_190 ?_
      refine lv_iload hx hb dX12_comes_193 (lv_at hl 2 rfl) ?_
      obtain ⟨c195_1832, h⟩ := sm_ck h
      refine sm_iald hx hb hE hP (t12_49 ha0) c195_1832 dX12_comes_195 ?_
      refine lv_iload_n hx hb dX12_comes_196 rfl (lv_at hl 1 rfl) ?_
      refine lv_iadd hx hb dX12_comes_197 ?_
      refine lv_aload_n hx hb dX12_comes_198 rfl (lv_at hl 0 rfl) ?_
      refine sm_get (ci := 12) (C := RX12) (T := TX12) (N := 54) (v := .int (M183_1830 a0 0)) hx hb hts hin12 hown hE hP ha0 rfl rfl 0 (by decide) (hts (.fieldLink RX12 7 "OrderMoverModel" "p" "I") (by decide +kernel)) (fun _ h9 => h9) rfl dX12_comes_199 ?_
      obtain ⟨c202_1833, h⟩ := sm_ck h
      refine lv_irem hx hb dX12_comes_202 c202_1833 ?_
      obtain ⟨c203_1834, h⟩ := sm_ck h
      refine sm_iast hx hb hE hJ hP hS (t12_49 ha0) c203_1834 dX12_comes_203 (fun H locs hP hS => ?_)
      obtain ⟨M203_1835, hM, h⟩ := sm_lt h
      rw [← hM] at hP; clear hM
      cases h
      exact sm_vret hx hb hr hlocks hP hS dX12_comes_204
    refine sm_jn (x := M1) (T := fun (q : Unit) => m_X12_comes_j82 a0 x1 x2 x3 x4_3_1826 M rc3_1827) (P := fun (q : Unit) H locs ls => smP D cA 2 adr M H ∧ va_S (smA 2 adr) s.heap H locs ∧ lv_has ls 6 [(0, .ref (adr a0)), (1, .int x1), (2, .int x2), (3, .int x3), (4, .int x4_3_1826)]) (st := fun (q : Unit) => []) (pc := 82) ?_ (fun J82_1836 => ?_)
    · intro q H locs ls h hI
      obtain ⟨hP, hS, hl⟩ := hI
      have hP : smP D cA 2 adr M H := hP
      have hl : lv_has ls 6 [(0, .ref (adr a0)), (1, .int x1), (2, .int x2), (3, .int x3), (4, .int x4_3_1826)] := hl
      have h : m_X12_comes_j82 a0 x1 x2 x3 x4_3_1826 M rc3_1827 = some _ := h
      unfold m_X12_comes_j82 at h
      refine W.eq (g2 := F0 m 82 ls []) rfl ?_
      refine lv_aload_n hx hb dX12_comes_82 rfl (lv_at hl 0 rfl) ?_
      refine sm_get (ci := 12) (C := RX12) (T := TX12) (N := 54) (v := .int (M a0 52)) hx hb hts hin12 hown hE hP ha0 rfl rfl 52 (by decide) (hts (.fieldLink RX12 308 "OrderMoverModel" "makesMany" "I") (by decide +kernel)) (fun _ h9 => h9) rfl dX12_comes_83 ?_
      refine lv_istore (lv' := [(5, .int (M a0 52)), (0, .ref (adr a0)), (1, .int x1), (2, .int x2), (3, .int x3), (4, .int x4_3_1826)]) hx hb dX12_comes_86 hl (by decide) rfl (fun ls hl => ?_)
      refine sm_lp (b := fun rc q => m_X12_comes_b88 a0 x1 x2 x3 x4_3_1826 rc3_1827 rc q.1 q.2) (P := fun (q : Int32 × smM) H locs ls => smP D cA 2 adr q.2 H ∧ va_S (smA 2 adr) s.heap H locs ∧ lv_has ls 6 [(0, .ref (adr a0)), (1, .int x1), (2, .int x2), (3, .int x3), (4, .int x4_3_1826), (5, .int q.1)]) (pc := 88) ?_ _ _ _ _ _ h ⟨hP, hS, lv_sub hl [1, 2, 3, 4, 5, 0] rfl⟩
      intro rc88_1839 ih88_1840 q H locs ls h hI
      obtain ⟨x5_88_1837, M88_1838⟩ := q
      obtain ⟨hP, hS, hl⟩ := hI
      have hP : smP D cA 2 adr M88_1838 H := hP
      have hl : lv_has ls 6 [(0, .ref (adr a0)), (1, .int x1), (2, .int x2), (3, .int x3), (4, .int x4_3_1826), (5, .int x5_88_1837)] := hl
      have h : m_X12_comes_b88 a0 x1 x2 x3 x4_3_1826 rc3_1827 rc88_1839 x5_88_1837 M88_1838 = some _ := h
      unfold m_X12_comes_b88 at h
      refine lv_iload hx hb dX12_comes_88 (lv_at hl 5 rfl) ?_
      refine lv_iload hx hb dX12_comes_90 (lv_at hl 4 rfl) ?_
      refine lv_icmp_le (tgt := 149) hx hb dX12_comes_92 (by decide) (fun c92_1841 => ?_) (fun c92_1841 => ?_)
      · rw [if_pos c92_1841] at h
        refine lv_aload_n hx hb dX12_comes_149 rfl (lv_at hl 0 rfl) ?_
        refine lv_dup hx hb dX12_comes_150 rfl ?_
        refine sm_get (ci := 12) (C := RX12) (T := TX12) (N := 54) (v := .int (M88_1838 a0 52)) hx hb hts hin12 hown hE hP ha0 rfl rfl 52 (by decide) (hts (.fieldLink RX12 308 "OrderMoverModel" "makesMany" "I") (by decide +kernel)) (fun _ h9 => h9) rfl dX12_comes_151 ?_
        refine lv_iconst (v := (1 : Int32)) hx hb dX12_comes_154 (by decide) ?_
        refine lv_iadd hx hb dX12_comes_155 ?_
        refine sm_put (ci := 12) (C := RX12) (T := TX12) (N := 54) (ty := .int) hx hb hts hin12 tyX12 tyX12_ok nmX12 hown hE hJ hP hS ha0 rfl rfl 52 (by decide) (hts (.fieldLink RX12 308 "OrderMoverModel" "makesMany" "I") (by decide +kernel)) (fun _ h9 => h9) rfl (by decide +kernel) rfl rfl (Nat.le_of_ble_eq_true rfl) rfl dX12_comes_156 (fun H locs hP hS => ?_)
        obtain ⟨M156_1842, hM, h⟩ := sm_lt h
        rw [← hM] at hP; clear hM
        refine lv_aload_n hx hb dX12_comes_159 rfl (lv_at hl 0 rfl) ?_
        refine sm_get (ci := 12) (C := RX12) (T := TX12) (N := 54) (v := .ref (adr (a0 + 37))) hx hb hts hin12 hown hE hP ha0 rfl rfl 49 (by decide) (hts (.fieldLink RX12 135 "OrderMoverModel" "makes" "[I") (by decide +kernel)) (fun _ h9 => h9) rfl dX12_comes_160 ?_
        refine lv_iload hx hb dX12_comes_163 (lv_at hl 4 rfl) ?_
        refine lv_iconst (v := (0 : Int32)) hx hb dX12_comes_165 (by decide) ?_
        obtain ⟨c166_1843, h⟩ := sm_ck h
        refine sm_iast hx hb hE hJ hP hS (t12_49 ha0) c166_1843 dX12_comes_166 (fun H locs hP hS => ?_)
        obtain ⟨M166_1844, hM, h⟩ := sm_lt h
        rw [← hM] at hP; clear hM
        refine lv_aload_n hx hb dX12_comes_167 rfl (lv_at hl 0 rfl) ?_
        refine sm_get (ci := 12) (C := RX12) (T := TX12) (N := 54) (v := .ref (adr (a0 + 38))) hx hb hts hin12 hown hE hP ha0 rfl rfl 50 (by decide) (hts (.fieldLink RX12 138 "OrderMoverModel" "makesI" "[I") (by decide +kernel)) (fun _ h9 => h9) rfl dX12_comes_168 ?_
        refine lv_iload hx hb dX12_comes_171 (lv_at hl 4 rfl) ?_
        refine lv_iload_n hx hb dX12_comes_173 rfl (lv_at hl 2 rfl) ?_
        obtain ⟨c174_1845, h⟩ := sm_ck h
        refine sm_iast hx hb hE hJ hP hS (t12_50 ha0) c174_1845 dX12_comes_174 (fun H locs hP hS => ?_)
        obtain ⟨M174_1846, hM, h⟩ := sm_lt h
        rw [← hM] at hP; clear hM
        refine lv_aload_n hx hb dX12_comes_175 rfl (lv_at hl 0 rfl) ?_
        refine sm_get (ci := 12) (C := RX12) (T := TX12) (N := 54) (v := .ref (adr (a0 + 39))) hx hb hts hin12 hown hE hP ha0 rfl rfl 51 (by decide) (hts (.fieldLink RX12 141 "OrderMoverModel" "makesJ" "[I") (by decide +kernel)) (fun _ h9 => h9) rfl dX12_comes_176 ?_
        refine lv_iload hx hb dX12_comes_179 (lv_at hl 4 rfl) ?_
        refine lv_iload_n hx hb dX12_comes_181 rfl (lv_at hl 3 rfl) ?_
        obtain ⟨c182_1847, h⟩ := sm_ck h
        refine sm_iast hx hb hE hJ hP hS (t12_51 ha0) c182_1847 dX12_comes_182 (fun H locs hP hS => ?_)
        obtain ⟨M182_1848, hM, h⟩ := sm_lt h
        rw [← hM] at hP; clear hM
        exact J183_1831 M182_1848 _ _ _ h ⟨hP, hS, lv_sub hl [0, 1, 4] rfl⟩
      · rw [if_neg c92_1841] at h
        refine lv_aload_n hx hb dX12_comes_95 rfl (lv_at hl 0 rfl) ?_
        refine sm_get (ci := 12) (C := RX12) (T := TX12) (N := 54) (v := .ref (adr (a0 + 37))) hx hb hts hin12 hown hE hP ha0 rfl rfl 49 (by decide) (hts (.fieldLink RX12 135 "OrderMoverModel" "makes" "[I") (by decide +kernel)) (fun _ h9 => h9) rfl dX12_comes_96 ?_
        refine lv_iload hx hb dX12_comes_99 (lv_at hl 5 rfl) ?_
        refine lv_aload_n hx hb dX12_comes_101 rfl (lv_at hl 0 rfl) ?_
        refine sm_get (ci := 12) (C := RX12) (T := TX12) (N := 54) (v := .ref (adr (a0 + 37))) hx hb hts hin12 hown hE hP ha0 rfl rfl 49 (by decide) (hts (.fieldLink RX12 135 "OrderMoverModel" "makes" "[I") (by decide +kernel)) (fun _ h9 => h9) rfl dX12_comes_102 ?_
        refine lv_iload hx hb dX12_comes_105 (lv_at hl 5 rfl) ?_
        refine lv_iconst (v := (1 : Int32)) hx hb dX12_comes_107 (by decide) ?_
        refine lv_isub hx hb dX12_comes_108 ?_
        obtain ⟨c109_1849, h⟩ := sm_ck h
        refine sm_iald hx hb hE hP (t12_49 ha0) c109_1849 dX12_comes_109 ?_
        obtain ⟨c110_1850, h⟩ := sm_ck h
        refine sm_iast hx hb hE hJ hP hS (t12_49 ha0) c110_1850 dX12_comes_110 (fun H locs hP hS => ?_)
        obtain ⟨M110_1851, hM, h⟩ := sm_lt h
        rw [← hM] at hP; clear hM
        refine lv_aload_n hx hb dX12_comes_111 rfl (lv_at hl 0 rfl) ?_
        refine sm_get (ci := 12) (C := RX12) (T := TX12) (N := 54) (v := .ref (adr (a0 + 38))) hx hb hts hin12 hown hE hP ha0 rfl rfl 50 (by decide) (hts (.fieldLink RX12 138 "OrderMoverModel" "makesI" "[I") (by decide +kernel)) (fun _ h9 => h9) rfl dX12_comes_112 ?_
        refine lv_iload hx hb dX12_comes_115 (lv_at hl 5 rfl) ?_
        refine lv_aload_n hx hb dX12_comes_117 rfl (lv_at hl 0 rfl) ?_
        refine sm_get (ci := 12) (C := RX12) (T := TX12) (N := 54) (v := .ref (adr (a0 + 38))) hx hb hts hin12 hown hE hP ha0 rfl rfl 50 (by decide) (hts (.fieldLink RX12 138 "OrderMoverModel" "makesI" "[I") (by decide +kernel)) (fun _ h9 => h9) rfl dX12_comes_118 ?_
        refine lv_iload hx hb dX12_comes_121 (lv_at hl 5 rfl) ?_
        refine lv_iconst (v := (1 : Int32)) hx hb dX12_comes_123 (by decide) ?_
        refine lv_isub hx hb dX12_comes_124 ?_
        obtain ⟨c125_1852, h⟩ := sm_ck h
        refine sm_iald hx hb hE hP (t12_50 ha0) c125_1852 dX12_comes_125 ?_
        obtain ⟨c126_1853, h⟩ := sm_ck h
        refine sm_iast hx hb hE hJ hP hS (t12_50 ha0) c126_1853 dX12_comes_126 (fun H locs hP hS => ?_)
        obtain ⟨M126_1854, hM, h⟩ := sm_lt h
        rw [← hM] at hP; clear hM
        refine lv_aload_n hx hb dX12_comes_127 rfl (lv_at hl 0 rfl) ?_
        refine sm_get (ci := 12) (C := RX12) (T := TX12) (N := 54) (v := .ref (adr (a0 + 39))) hx hb hts hin12 hown hE hP ha0 rfl rfl 51 (by decide) (hts (.fieldLink RX12 141 "OrderMoverModel" "makesJ" "[I") (by decide +kernel)) (fun _ h9 => h9) rfl dX12_comes_128 ?_
        refine lv_iload hx hb dX12_comes_131 (lv_at hl 5 rfl) ?_
        refine lv_aload_n hx hb dX12_comes_133 rfl (lv_at hl 0 rfl) ?_
        refine sm_get (ci := 12) (C := RX12) (T := TX12) (N := 54) (v := .ref (adr (a0 + 39))) hx hb hts hin12 hown hE hP ha0 rfl rfl 51 (by decide) (hts (.fieldLink RX12 141 "OrderMoverModel" "makesJ" "[I") (by decide +kernel)) (fun _ h9 => h9) rfl dX12_comes_134 ?_
        refine lv_iload hx hb dX12_comes_137 (lv_at hl 5 rfl) ?_
        refine lv_iconst (v := (1 : Int32)) hx hb dX12_comes_139 (by decide) ?_
        refine lv_isub hx hb dX12_comes_140 ?_
        obtain ⟨c141_1855, h⟩ := sm_ck h
        refine sm_iald hx hb hE hP (t12_51 ha0) c141_1855 dX12_comes_141 ?_
        obtain ⟨c142_1856, h⟩ := sm_ck h
        refine sm_iast hx hb hE hJ hP hS (t12_51 ha0) c142_1856 dX12_comes_142 (fun H locs hP hS => ?_)
        obtain ⟨M142_1857, hM, h⟩ := sm_lt h
        rw [← hM] at hP; clear hM
        refine lv_iinc (v := (x5_88_1837 + (-1 : Int32))) (lv' := [(5, .int (x5_88_1837 + (-1 : Int32))), (0, .ref (adr a0)), (1, .int x1), (2, .int x2), (3, .int x3), (4, .int x4_3_1826)]) hx hb dX12_comes_143 hl (k := 5) rfl (congrArg (fun z => x5_88_1837 + z) (by decide)) (by decide) rfl (fun ls hl => ?_)
        refine lv_goto (tgt := 88) hx hb dX12_comes_146 (by decide) ?_
        exact ih88_1840 ((x5_88_1837 + (-1 : Int32)), M142_1857) _ _ _ h ⟨hP, hS, lv_sub hl [1, 2, 3, 4, 5, 0] rfl⟩
    refine lv_icmp_eq (tgt := 82) hx hb dX12_comes_57 (by decide) (fun c57_1858 => ?_) (fun c57_1858 => ?_)
    · rw [if_pos c57_1858] at h
      exact J82_1836 () _ _ _ h ⟨hP, hS, lv_sub hl [0, 1, 2, 3, 4] rfl⟩
    · rw [if_neg c57_1858] at h
      refine lv_aload_n hx hb dX12_comes_60 rfl (lv_at hl 0 rfl) ?_
      refine sm_get (ci := 12) (C := RX12) (T := TX12) (N := 54) (v := .ref (adr (a0 + 38))) hx hb hts hin12 hown hE hP ha0 rfl rfl 50 (by decide) (hts (.fieldLink RX12 138 "OrderMoverModel" "makesI" "[I") (by decide +kernel)) (fun _ h9 => h9) rfl dX12_comes_61 ?_
      refine lv_iload hx hb dX12_comes_64 (lv_at hl 4 rfl) ?_
      obtain ⟨c66_1859, h⟩ := sm_ck h
      refine sm_iald hx hb hE hP (t12_50 ha0) c66_1859 dX12_comes_66 ?_
      refine lv_iload_n hx hb dX12_comes_67 rfl (lv_at hl 2 rfl) ?_
      refine lv_icmp_ne (tgt := 82) hx hb dX12_comes_68 (by decide) (fun c68_1860 => ?_) (fun c68_1860 => ?_)
      · rw [if_neg c68_1860] at h
        exact J82_1836 () _ _ _ h ⟨hP, hS, lv_sub hl [0, 1, 2, 3, 4] rfl⟩
      · rw [if_pos c68_1860] at h
        refine lv_aload_n hx hb dX12_comes_71 rfl (lv_at hl 0 rfl) ?_
        refine sm_get (ci := 12) (C := RX12) (T := TX12) (N := 54) (v := .ref (adr (a0 + 39))) hx hb hts hin12 hown hE hP ha0 rfl rfl 51 (by decide) (hts (.fieldLink RX12 141 "OrderMoverModel" "makesJ" "[I") (by decide +kernel)) (fun _ h9 => h9) rfl dX12_comes_72 ?_
        refine lv_iload hx hb dX12_comes_75 (lv_at hl 4 rfl) ?_
        obtain ⟨c77_1861, h⟩ := sm_ck h
        refine sm_iald hx hb hE hP (t12_51 ha0) c77_1861 dX12_comes_77 ?_
        refine lv_iload_n hx hb dX12_comes_78 rfl (lv_at hl 3 rfl) ?_
        refine lv_icmp_eq (tgt := 183) hx hb dX12_comes_79 (by decide) (fun c79_1862 => ?_) (fun c79_1862 => ?_)
        · rw [if_pos c79_1862] at h
          exact J183_1831 M _ _ _ h ⟨hP, hS, lv_sub hl [0, 1, 4] rfl⟩
        · rw [if_neg c79_1862] at h
          exact J82_1836 () _ _ _ h ⟨hP, hS, lv_sub hl [0, 1, 2, 3, 4] rfl⟩
  refine lv_icmp_ge (tgt := 51) hx hb dX12_comes_9 (by decide) (fun c9_1863 => ?_) (fun c9_1863 => ?_)
  · rw [if_pos c9_1863] at h
    exact J51_1829 () _ _ _ h ⟨hP, hS, lv_sub hl [0, 1, 2, 3, 4] rfl⟩
  · rw [if_neg c9_1863] at h
    refine lv_aload_n hx hb dX12_comes_12 rfl (lv_at hl 0 rfl) ?_
    refine sm_get (ci := 12) (C := RX12) (T := TX12) (N := 54) (v := .ref (adr (a0 + 38))) hx hb hts hin12 hown hE hP ha0 rfl rfl 50 (by decide) (hts (.fieldLink RX12 138 "OrderMoverModel" "makesI" "[I") (by decide +kernel)) (fun _ h9 => h9) rfl dX12_comes_13 ?_
    refine lv_iload hx hb dX12_comes_16 (lv_at hl 4 rfl) ?_
    obtain ⟨c18_1864, h⟩ := sm_ck h
    refine sm_iald hx hb hE hP (t12_50 ha0) c18_1864 dX12_comes_18 ?_
    refine lv_iload_n hx hb dX12_comes_19 rfl (lv_at hl 2 rfl) ?_
    refine lv_icmp_gt (tgt := 45) hx hb dX12_comes_20 (by decide) (fun c20_1865 => ?_) (fun c20_1865 => ?_)
    · rw [if_pos c20_1865] at h
      refine lv_iinc (v := (x4_3_1826 + (1 : Int32))) (lv' := [(4, .int (x4_3_1826 + (1 : Int32))), (0, .ref (adr a0)), (1, .int x1), (2, .int x2), (3, .int x3)]) hx hb dX12_comes_45 hl (k := 4) rfl (congrArg (fun z => x4_3_1826 + z) (by decide)) (by decide) rfl (fun ls hl => ?_)
      refine lv_goto (tgt := 3) hx hb dX12_comes_48 (by decide) ?_
      exact ih3_1828 (x4_3_1826 + (1 : Int32)) _ _ _ h ⟨hP, hS, lv_sub hl [1, 2, 3, 4, 0] rfl⟩
    · rw [if_neg c20_1865] at h
      refine lv_aload_n hx hb dX12_comes_23 rfl (lv_at hl 0 rfl) ?_
      refine sm_get (ci := 12) (C := RX12) (T := TX12) (N := 54) (v := .ref (adr (a0 + 38))) hx hb hts hin12 hown hE hP ha0 rfl rfl 50 (by decide) (hts (.fieldLink RX12 138 "OrderMoverModel" "makesI" "[I") (by decide +kernel)) (fun _ h9 => h9) rfl dX12_comes_24 ?_
      refine lv_iload hx hb dX12_comes_27 (lv_at hl 4 rfl) ?_
      obtain ⟨c29_1866, h⟩ := sm_ck h
      refine sm_iald hx hb hE hP (t12_50 ha0) c29_1866 dX12_comes_29 ?_
      refine lv_iload_n hx hb dX12_comes_30 rfl (lv_at hl 2 rfl) ?_
      refine lv_icmp_ne (tgt := 51) hx hb dX12_comes_31 (by decide) (fun c31_1867 => ?_) (fun c31_1867 => ?_)
      · rw [if_neg c31_1867] at h
        exact J51_1829 () _ _ _ h ⟨hP, hS, lv_sub hl [0, 1, 2, 3, 4] rfl⟩
      · rw [if_pos c31_1867] at h
        refine lv_aload_n hx hb dX12_comes_34 rfl (lv_at hl 0 rfl) ?_
        refine sm_get (ci := 12) (C := RX12) (T := TX12) (N := 54) (v := .ref (adr (a0 + 39))) hx hb hts hin12 hown hE hP ha0 rfl rfl 51 (by decide) (hts (.fieldLink RX12 141 "OrderMoverModel" "makesJ" "[I") (by decide +kernel)) (fun _ h9 => h9) rfl dX12_comes_35 ?_
        refine lv_iload hx hb dX12_comes_38 (lv_at hl 4 rfl) ?_
        obtain ⟨c40_1868, h⟩ := sm_ck h
        refine sm_iald hx hb hE hP (t12_51 ha0) c40_1868 dX12_comes_40 ?_
        refine lv_iload_n hx hb dX12_comes_41 rfl (lv_at hl 3 rfl) ?_
        refine lv_icmp_le (tgt := 51) hx hb dX12_comes_42 (by decide) (fun c42_1869 => ?_) (fun c42_1869 => ?_)
        · rw [if_pos c42_1869] at h
          exact J51_1829 () _ _ _ h ⟨hP, hS, lv_sub hl [0, 1, 2, 3, 4] rfl⟩
        · rw [if_neg c42_1869] at h
          refine lv_iinc (v := (x4_3_1826 + (1 : Int32))) (lv' := [(4, .int (x4_3_1826 + (1 : Int32))), (0, .ref (adr a0)), (1, .int x1), (2, .int x2), (3, .int x3)]) hx hb dX12_comes_45 hl (k := 4) rfl (congrArg (fun z => x4_3_1826 + z) (by decide)) (by decide) rfl (fun ls hl => ?_)
          refine lv_goto (tgt := 3) hx hb dX12_comes_48 (by decide) ?_
          exact ih3_1828 (x4_3_1826 + (1 : Int32)) _ _ _ h ⟨hP, hS, lv_sub hl [1, 2, 3, 4, 0] rfl⟩
set_option maxHeartbeats 4000000 in
set_option maxRecDepth 100000 in
theorem k_X12_takes (l : Launch) (D : va_G) (cA : Nat → ClassId) (adr : Nat → Nat) (hJ : smJ 2 adr) (a0 : Nat) (x1 : Int32) (ha0 : smT 2 a0 12) (M : smM) (M1 : smM) (h : m_X12_takes a0 x1 M = some M1) : Met l yX12_takes wsX12_takes ({ frames := 1, cells := 0, slots := 0, locals := 25 }) (smPc D cA 2 adr M [.ref (adr a0), .int x1]) (smQv D cA 2 adr M1) 0 0 (smA 2 adr) := by
  refine Met.ofW (cc := cX12_takes) (maxL := 3) (ret := none) (by decide) rfl ?_
  intro p e s m args below meth c s₁ B hml hv
  obtain ⟨rfl, hE, hP⟩ := hv
  have hx := B.exec
  have hb := B.bytes
  have hr := B.returns
  have hts := atoms_spec (ws := wsX12_takes) B.pre
  have hown : s.vm.findClass RX12 = some m.cls := findClass_of_methodNamed B.named
  have hlocks := B.notSynchronized
  have hS : va_S (smA 2 adr) s.heap s.heap [] := va_S.rf
  have hP : smP D cA 2 adr M s.heap := hP
  have hl := lv_entry ([.ref (adr a0), .int x1]) (n := 3) (Nat.le_of_ble_eq_true rfl)
  rw [lg_entry_eq]
  generalize (lg_sl ([.ref (adr a0), .int x1]) ++ List.replicate (3 - (lg_sl ([.ref (adr a0), .int x1])).length) Slot.unset).toArray = ls at hl ⊢
  have hl : lv_has ls 3 [(0, .ref (adr a0)), (1, .int x1)] := hl
  unfold m_X12_takes at h
  have hin12 : ∀ w ∈ u_ws RX12 TX12 54, w ∈ wsX12_takes := by decide +kernel
  refine lv_aload_n hx hb dX12_takes_0 rfl (lv_at hl 0 rfl) ?_
  refine lv_iconst (v := (0 : Int32)) hx hb dX12_takes_1 (by decide) ?_
  refine sm_put (ci := 12) (C := RX12) (T := TX12) (N := 54) (ty := .int) hx hb hts hin12 tyX12 tyX12_ok nmX12 hown hE hJ hP hS ha0 rfl rfl 52 (by decide) (hts (.fieldLink RX12 308 "OrderMoverModel" "makesMany" "I") (by decide +kernel)) (fun _ h9 => h9) rfl (by decide +kernel) rfl rfl (Nat.le_of_ble_eq_true rfl) rfl dX12_takes_2 (fun H locs hP hS => ?_)
  obtain ⟨M2_1870, hM, h⟩ := sm_lt h
  rw [← hM] at hP; clear hM
  refine lv_bipush (v := (8 : Int32)) hx hb dX12_takes_5 (by decide) ?_
  refine lv_iload_n hx hb dX12_takes_7 rfl (lv_at hl 1 rfl) ?_
  refine lv_imul hx hb dX12_takes_8 ?_
  refine lv_istore_n (lv' := [(2, .int ((8 : Int32) * x1)), (0, .ref (adr a0)), (1, .int x1)]) hx hb dX12_takes_9 rfl hl (by decide) rfl (fun ls hl => ?_)
  refine sm_lp (b := fun rc q => m_X12_takes_b10 a0 x1 rc q.1 q.2) (P := fun (q : Int32 × smM) H locs ls => smP D cA 2 adr q.2 H ∧ va_S (smA 2 adr) s.heap H locs ∧ lv_has ls 3 [(0, .ref (adr a0)), (1, .int x1), (2, .int q.1)]) (pc := 10) ?_ _ _ _ _ _ h ⟨hP, hS, lv_sub hl [1, 2, 0] rfl⟩
  intro rc10_1873 ih10_1874 q H locs ls h hI
  obtain ⟨x2_10_1871, M10_1872⟩ := q
  obtain ⟨hP, hS, hl⟩ := hI
  have hP : smP D cA 2 adr M10_1872 H := hP
  have hl : lv_has ls 3 [(0, .ref (adr a0)), (1, .int x1), (2, .int x2_10_1871)] := hl
  have h : m_X12_takes_b10 a0 x1 rc10_1873 x2_10_1871 M10_1872 = some _ := h
  unfold m_X12_takes_b10 at h
  refine lv_iload_n hx hb dX12_takes_10 rfl (lv_at hl 2 rfl) ?_
  refine lv_bipush (v := (8 : Int32)) hx hb dX12_takes_11 (by decide) ?_
  refine lv_iload_n hx hb dX12_takes_13 rfl (lv_at hl 1 rfl) ?_
  refine lv_imul hx hb dX12_takes_14 ?_
  refine lv_aload_n hx hb dX12_takes_15 rfl (lv_at hl 0 rfl) ?_
  refine sm_get (ci := 12) (C := RX12) (T := TX12) (N := 54) (v := .ref (adr (a0 + 3))) hx hb hts hin12 hown hE hP ha0 rfl rfl 7 (by decide) (hts (.fieldLink RX12 32 "OrderMoverModel" "many" "[I") (by decide +kernel)) (fun _ h9 => h9) rfl dX12_takes_16 ?_
  refine lv_iload_n hx hb dX12_takes_19 rfl (lv_at hl 1 rfl) ?_
  obtain ⟨c20_1875, h⟩ := sm_ck h
  refine sm_iald hx hb hE hP (t12_7 ha0) c20_1875 dX12_takes_20 ?_
  refine lv_iadd hx hb dX12_takes_21 ?_
  refine lv_icmp_ge (tgt := 53) hx hb dX12_takes_22 (by decide) (fun c22_1876 => ?_) (fun c22_1876 => ?_)
  · rw [if_pos c22_1876] at h
    cases h
    exact sm_vret hx hb hr hlocks hP hS dX12_takes_53
  · rw [if_neg c22_1876] at h
    refine lv_aload_n hx hb dX12_takes_25 rfl (lv_at hl 0 rfl) ?_
    refine lv_aload_n hx hb dX12_takes_26 rfl (lv_at hl 0 rfl) ?_
    refine sm_get (ci := 12) (C := RX12) (T := TX12) (N := 54) (v := .ref (adr (a0 + 4))) hx hb hts hin12 hown hE hP ha0 rfl rfl 8 (by decide) (hts (.fieldLink RX12 35 "OrderMoverModel" "numbers" "[I") (by decide +kernel)) (fun _ h9 => h9) rfl dX12_takes_27 ?_
    refine lv_iload_n hx hb dX12_takes_30 rfl (lv_at hl 2 rfl) ?_
    obtain ⟨c31_1877, h⟩ := sm_ck h
    refine sm_iald hx hb hE hP (t12_8 ha0) c31_1877 dX12_takes_31 ?_
    refine lv_aload_n hx hb dX12_takes_32 rfl (lv_at hl 0 rfl) ?_
    refine sm_get (ci := 12) (C := RX12) (T := TX12) (N := 54) (v := .ref (adr (a0 + 5))) hx hb hts hin12 hown hE hP ha0 rfl rfl 9 (by decide) (hts (.fieldLink RX12 38 "OrderMoverModel" "powersI" "[I") (by decide +kernel)) (fun _ h9 => h9) rfl dX12_takes_33 ?_
    refine lv_iload_n hx hb dX12_takes_36 rfl (lv_at hl 2 rfl) ?_
    obtain ⟨c37_1878, h⟩ := sm_ck h
    refine sm_iald hx hb hE hP (t12_9 ha0) c37_1878 dX12_takes_37 ?_
    refine lv_aload_n hx hb dX12_takes_38 rfl (lv_at hl 0 rfl) ?_
    refine sm_get (ci := 12) (C := RX12) (T := TX12) (N := 54) (v := .ref (adr (a0 + 6))) hx hb hts hin12 hown hE hP ha0 rfl rfl 10 (by decide) (hts (.fieldLink RX12 41 "OrderMoverModel" "powersJ" "[I") (by decide +kernel)) (fun _ h9 => h9) rfl dX12_takes_39 ?_
    refine lv_iload_n hx hb dX12_takes_42 rfl (lv_at hl 2 rfl) ?_
    obtain ⟨c43_1879, h⟩ := sm_ck h
    refine sm_iald hx hb hE hP (t12_10 ha0) c43_1879 dX12_takes_43 ?_
    obtain ⟨M44_1881, hc44_1882, h⟩ := sm_bd h
    refine sm_cv (va_runV (As := [.int (M10_1872 (a0 + 4) (x2_10_1871).toNatClampNeg), .int (M10_1872 (a0 + 5) (x2_10_1871).toNatClampNeg), .int (M10_1872 (a0 + 6) (x2_10_1871).toNatClampNeg)]) (rest := []) ⟨hx, hb, hml, hown, hts⟩ (k_X12_comes l D cA adr hJ a0 (M10_1872 (a0 + 4) (x2_10_1871).toNatClampNeg) (M10_1872 (a0 + 5) (x2_10_1871).toNatClampNeg) (M10_1872 (a0 + 6) (x2_10_1871).toNatClampNeg) ha0 M10_1872 M44_1881 hc44_1882) (cwV 3 hts gX12_takes_X12_comes rfl rfl rfl (by decide +kernel) ⟨Nat.le_of_ble_eq_true rfl, Nat.le_of_ble_eq_true rfl⟩) ⟨smPc_bl, smRv hE hP ha0 rfl (ci := 12) (q := (RX12, TX12, 54)) rfl, smPc_in [.ref (adr a0), .int (M10_1872 (a0 + 4) (x2_10_1871).toNatClampNeg), .int (M10_1872 (a0 + 5) (x2_10_1871).toNatClampNeg), .int (M10_1872 (a0 + 6) (x2_10_1871).toNatClampNeg)] hE hP⟩ rfl rfl hl.1 rfl (lv_room (Nat.le_of_ble_eq_true rfl)) dX12_takes_44 ⟨Nat.zero_le _, Nat.zero_le _⟩) hS (fun H locs hP hS => ?_)
    refine lv_iinc (v := (x2_10_1871 + (1 : Int32))) (lv' := [(2, .int (x2_10_1871 + (1 : Int32))), (0, .ref (adr a0)), (1, .int x1)]) hx hb dX12_takes_47 hl (k := 2) rfl (congrArg (fun z => x2_10_1871 + z) (by decide)) (by decide) rfl (fun ls hl => ?_)
    refine lv_goto (tgt := 10) hx hb dX12_takes_50 (by decide) ?_
    exact ih10_1874 ((x2_10_1871 + (1 : Int32)), M44_1881) _ _ _ h ⟨hP, hS, lv_sub hl [1, 2, 0] rfl⟩
set_option maxHeartbeats 4000000 in
set_option maxRecDepth 100000 in
theorem k_X12_gives (l : Launch) (D : va_G) (cA : Nat → ClassId) (adr : Nat → Nat) (hJ : smJ 2 adr) (a0 : Nat) (x1 : Int32) (ha0 : smT 2 a0 12) (M : smM) (v1 : Int32) (M1 : smM) (h : m_X12_gives a0 x1 M = some (v1, M1)) : Met l yX12_gives wsX12_gives ({ frames := 0, cells := 0, slots := 0, locals := 0 }) (smPc D cA 2 adr M [.ref (adr a0), .int x1]) (smQi D cA 2 adr M1 v1) 0 0 (smA 2 adr) := by
  refine Met.ofW (cc := cX12_gives) (maxL := 4) (ret := (some .int)) (by decide) rfl ?_
  intro p e s m args below meth c s₁ B hml hv
  obtain ⟨rfl, hE, hP⟩ := hv
  have hx := B.exec
  have hb := B.bytes
  have hr := B.returns
  have hts := atoms_spec (ws := wsX12_gives) B.pre
  have hown : s.vm.findClass RX12 = some m.cls := findClass_of_methodNamed B.named
  have hlocks := B.notSynchronized
  have hS : va_S (smA 2 adr) s.heap s.heap [] := va_S.rf
  have hP : smP D cA 2 adr M s.heap := hP
  have hl := lv_entry ([.ref (adr a0), .int x1]) (n := 4) (Nat.le_of_ble_eq_true rfl)
  rw [lg_entry_eq]
  generalize (lg_sl ([.ref (adr a0), .int x1]) ++ List.replicate (4 - (lg_sl ([.ref (adr a0), .int x1])).length) Slot.unset).toArray = ls at hl ⊢
  have hl : lv_has ls 4 [(0, .ref (adr a0)), (1, .int x1)] := hl
  unfold m_X12_gives at h
  have hin12 : ∀ w ∈ u_ws RX12 TX12 54, w ∈ wsX12_gives := by decide +kernel
  refine lv_iconst (v := (0 : Int32)) hx hb dX12_gives_0 (by decide) ?_
  refine lv_istore_n (lv' := [(2, .int (0 : Int32)), (0, .ref (adr a0)), (1, .int x1)]) hx hb dX12_gives_1 rfl hl (by decide) rfl (fun ls hl => ?_)
  refine lv_iconst (v := (0 : Int32)) hx hb dX12_gives_2 (by decide) ?_
  refine lv_istore_n (lv' := [(3, .int (0 : Int32)), (2, .int (0 : Int32)), (0, .ref (adr a0)), (1, .int x1)]) hx hb dX12_gives_3 rfl hl (by decide) rfl (fun ls hl => ?_)
  refine sm_lp (b := fun rc q => m_X12_gives_b4 a0 x1 M rc q.1 q.2) (P := fun (q : Int32 × Int32) H locs ls => smP D cA 2 adr M H ∧ va_S (smA 2 adr) s.heap H locs ∧ lv_has ls 4 [(0, .ref (adr a0)), (1, .int x1), (2, .int q.1), (3, .int q.2)]) (pc := 4) ?_ _ _ _ _ _ h ⟨hP, hS, lv_sub hl [2, 3, 1, 0] rfl⟩
  intro rc4_1885 ih4_1886 q H locs ls h hI
  obtain ⟨x2_4_1883, x3_4_1884⟩ := q
  obtain ⟨hP, hS, hl⟩ := hI
  have hP : smP D cA 2 adr M H := hP
  have hl : lv_has ls 4 [(0, .ref (adr a0)), (1, .int x1), (2, .int x2_4_1883), (3, .int x3_4_1884)] := hl
  have h : m_X12_gives_b4 a0 x1 M rc4_1885 x2_4_1883 x3_4_1884 = some _ := h
  unfold m_X12_gives_b4 at h
  refine lv_iload_n hx hb dX12_gives_4 rfl (lv_at hl 3 rfl) ?_
  refine lv_aload_n hx hb dX12_gives_5 rfl (lv_at hl 0 rfl) ?_
  refine sm_get (ci := 12) (C := RX12) (T := TX12) (N := 54) (v := .int (M a0 52)) hx hb hts hin12 hown hE hP ha0 rfl rfl 52 (by decide) (hts (.fieldLink RX12 308 "OrderMoverModel" "makesMany" "I") (by decide +kernel)) (fun _ h9 => h9) rfl dX12_gives_6 ?_
  refine lv_icmp_ge (tgt := 35) hx hb dX12_gives_9 (by decide) (fun c9_1887 => ?_) (fun c9_1887 => ?_)
  · rw [if_pos c9_1887] at h
    refine lv_iload_n hx hb dX12_gives_35 rfl (lv_at hl 2 rfl) ?_
    refine lv_bipush (v := (8 : Int32)) hx hb dX12_gives_36 (by decide) ?_
    refine lv_icmp_le (tgt := 44) hx hb dX12_gives_38 (by decide) (fun c38_1888 => ?_) (fun c38_1888 => ?_)
    · rw [if_pos c38_1888] at h
      refine lv_iconst (v := (0 : Int32)) hx hb dX12_gives_44 (by decide) ?_
      refine lv_istore_n (lv' := [(2, .int (0 : Int32)), (0, .ref (adr a0)), (1, .int x1), (3, .int x3_4_1884)]) hx hb dX12_gives_45 rfl hl (by decide) rfl (fun ls hl => ?_)
      refine lv_iconst (v := (0 : Int32)) hx hb dX12_gives_46 (by decide) ?_
      refine lv_istore_n (lv' := [(3, .int (0 : Int32)), (2, .int (0 : Int32)), (0, .ref (adr a0)), (1, .int x1)]) hx hb dX12_gives_47 rfl hl (by decide) rfl (fun ls hl => ?_)
      refine sm_lp (b := fun rc q => m_X12_gives_b48 a0 x1 rc4_1885 rc q.1 q.2.1 q.2.2) (P := fun (q : Int32 × Int32 × smM) H locs ls => smP D cA 2 adr q.2.2 H ∧ va_S (smA 2 adr) s.heap H locs ∧ lv_has ls 4 [(0, .ref (adr a0)), (1, .int x1), (2, .int q.1), (3, .int q.2.1)]) (pc := 48) ?_ _ _ _ _ _ h ⟨hP, hS, lv_sub hl [2, 3, 1, 0] rfl⟩
      intro rc48_1892 ih48_1893 q H locs ls h hI
      obtain ⟨x2_48_1889, x3_48_1890, M48_1891⟩ := q
      obtain ⟨hP, hS, hl⟩ := hI
      have hP : smP D cA 2 adr M48_1891 H := hP
      have hl : lv_has ls 4 [(0, .ref (adr a0)), (1, .int x1), (2, .int x2_48_1889), (3, .int x3_48_1890)] := hl
      have h : m_X12_gives_b48 a0 x1 rc4_1885 rc48_1892 x2_48_1889 x3_48_1890 M48_1891 = some _ := h
      unfold m_X12_gives_b48 at h
      refine lv_iload_n hx hb dX12_gives_48 rfl (lv_at hl 3 rfl) ?_
      refine lv_aload_n hx hb dX12_gives_49 rfl (lv_at hl 0 rfl) ?_
      refine sm_get (ci := 12) (C := RX12) (T := TX12) (N := 54) (v := .int (M48_1891 a0 52)) hx hb hts hin12 hown hE hP ha0 rfl rfl 52 (by decide) (hts (.fieldLink RX12 308 "OrderMoverModel" "makesMany" "I") (by decide +kernel)) (fun _ h9 => h9) rfl dX12_gives_50 ?_
      refine lv_icmp_ge (tgt := 125) hx hb dX12_gives_53 (by decide) (fun c53_1894 => ?_) (fun c53_1894 => ?_)
      · rw [if_pos c53_1894] at h
        refine lv_aload_n hx hb dX12_gives_125 rfl (lv_at hl 0 rfl) ?_
        refine sm_get (ci := 12) (C := RX12) (T := TX12) (N := 54) (v := .ref (adr (a0 + 3))) hx hb hts hin12 hown hE hP ha0 rfl rfl 7 (by decide) (hts (.fieldLink RX12 32 "OrderMoverModel" "many" "[I") (by decide +kernel)) (fun _ h9 => h9) rfl dX12_gives_126 ?_
        refine lv_iload_n hx hb dX12_gives_129 rfl (lv_at hl 1 rfl) ?_
        refine lv_iload_n hx hb dX12_gives_130 rfl (lv_at hl 2 rfl) ?_
        obtain ⟨c131_1895, h⟩ := sm_ck h
        refine sm_iast hx hb hE hJ hP hS (t12_7 ha0) c131_1895 dX12_gives_131 (fun H locs hP hS => ?_)
        obtain ⟨M131_1896, hM, h⟩ := sm_lt h
        rw [← hM] at hP; clear hM
        refine lv_iload_n hx hb dX12_gives_132 rfl (lv_at hl 2 rfl) ?_
        cases h
        exact sm_iret hx hb hr hlocks hP hS dX12_gives_133
      · rw [if_neg c53_1894] at h
        refine lv_aload_n hx hb dX12_gives_56 rfl (lv_at hl 0 rfl) ?_
        refine sm_get (ci := 12) (C := RX12) (T := TX12) (N := 54) (v := .ref (adr (a0 + 37))) hx hb hts hin12 hown hE hP ha0 rfl rfl 49 (by decide) (hts (.fieldLink RX12 135 "OrderMoverModel" "makes" "[I") (by decide +kernel)) (fun _ h9 => h9) rfl dX12_gives_57 ?_
        refine lv_iload_n hx hb dX12_gives_60 rfl (lv_at hl 3 rfl) ?_
        obtain ⟨c61_1897, h⟩ := sm_ck h
        refine sm_iald hx hb hE hP (t12_49 ha0) c61_1897 dX12_gives_61 ?_
        refine lv_if_eq (tgt := 119) hx hb dX12_gives_62 (by decide) (fun c62_1898 => ?_) (fun c62_1898 => ?_)
        · rw [if_pos c62_1898] at h
          refine lv_iinc (v := (x3_48_1890 + (1 : Int32))) (lv' := [(3, .int (x3_48_1890 + (1 : Int32))), (0, .ref (adr a0)), (1, .int x1), (2, .int x2_48_1889)]) hx hb dX12_gives_119 hl (k := 3) rfl (congrArg (fun z => x3_48_1890 + z) (by decide)) (by decide) rfl (fun ls hl => ?_)
          refine lv_goto (tgt := 48) hx hb dX12_gives_122 (by decide) ?_
          exact ih48_1893 (x2_48_1889, (x3_48_1890 + (1 : Int32)), M48_1891) _ _ _ h ⟨hP, hS, lv_sub hl [1, 2, 3, 0] rfl⟩
        · rw [if_neg c62_1898] at h
          refine lv_aload_n hx hb dX12_gives_65 rfl (lv_at hl 0 rfl) ?_
          refine sm_get (ci := 12) (C := RX12) (T := TX12) (N := 54) (v := .ref (adr (a0 + 4))) hx hb hts hin12 hown hE hP ha0 rfl rfl 8 (by decide) (hts (.fieldLink RX12 35 "OrderMoverModel" "numbers" "[I") (by decide +kernel)) (fun _ h9 => h9) rfl dX12_gives_66 ?_
          refine lv_bipush (v := (8 : Int32)) hx hb dX12_gives_69 (by decide) ?_
          refine lv_iload_n hx hb dX12_gives_71 rfl (lv_at hl 1 rfl) ?_
          refine lv_imul hx hb dX12_gives_72 ?_
          refine lv_iload_n hx hb dX12_gives_73 rfl (lv_at hl 2 rfl) ?_
          refine lv_iadd hx hb dX12_gives_74 ?_
          refine lv_aload_n hx hb dX12_gives_75 rfl (lv_at hl 0 rfl) ?_
          refine sm_get (ci := 12) (C := RX12) (T := TX12) (N := 54) (v := .ref (adr (a0 + 37))) hx hb hts hin12 hown hE hP ha0 rfl rfl 49 (by decide) (hts (.fieldLink RX12 135 "OrderMoverModel" "makes" "[I") (by decide +kernel)) (fun _ h9 => h9) rfl dX12_gives_76 ?_
          refine lv_iload_n hx hb dX12_gives_79 rfl (lv_at hl 3 rfl) ?_
          obtain ⟨c80_1899, h⟩ := sm_ck h
          refine sm_iald hx hb hE hP (t12_49 ha0) c80_1899 dX12_gives_80 ?_
          obtain ⟨c81_1900, h⟩ := sm_ck h
          refine sm_iast hx hb hE hJ hP hS (t12_8 ha0) c81_1900 dX12_gives_81 (fun H locs hP hS => ?_)
          obtain ⟨M81_1901, hM, h⟩ := sm_lt h
          rw [← hM] at hP; clear hM
          refine lv_aload_n hx hb dX12_gives_82 rfl (lv_at hl 0 rfl) ?_
          refine sm_get (ci := 12) (C := RX12) (T := TX12) (N := 54) (v := .ref (adr (a0 + 5))) hx hb hts hin12 hown hE hP ha0 rfl rfl 9 (by decide) (hts (.fieldLink RX12 38 "OrderMoverModel" "powersI" "[I") (by decide +kernel)) (fun _ h9 => h9) rfl dX12_gives_83 ?_
          refine lv_bipush (v := (8 : Int32)) hx hb dX12_gives_86 (by decide) ?_
          refine lv_iload_n hx hb dX12_gives_88 rfl (lv_at hl 1 rfl) ?_
          refine lv_imul hx hb dX12_gives_89 ?_
          refine lv_iload_n hx hb dX12_gives_90 rfl (lv_at hl 2 rfl) ?_
          refine lv_iadd hx hb dX12_gives_91 ?_
          refine lv_aload_n hx hb dX12_gives_92 rfl (lv_at hl 0 rfl) ?_
          refine sm_get (ci := 12) (C := RX12) (T := TX12) (N := 54) (v := .ref (adr (a0 + 38))) hx hb hts hin12 hown hE hP ha0 rfl rfl 50 (by decide) (hts (.fieldLink RX12 138 "OrderMoverModel" "makesI" "[I") (by decide +kernel)) (fun _ h9 => h9) rfl dX12_gives_93 ?_
          refine lv_iload_n hx hb dX12_gives_96 rfl (lv_at hl 3 rfl) ?_
          obtain ⟨c97_1902, h⟩ := sm_ck h
          refine sm_iald hx hb hE hP (t12_50 ha0) c97_1902 dX12_gives_97 ?_
          obtain ⟨c98_1903, h⟩ := sm_ck h
          refine sm_iast hx hb hE hJ hP hS (t12_9 ha0) c98_1903 dX12_gives_98 (fun H locs hP hS => ?_)
          obtain ⟨M98_1904, hM, h⟩ := sm_lt h
          rw [← hM] at hP; clear hM
          refine lv_aload_n hx hb dX12_gives_99 rfl (lv_at hl 0 rfl) ?_
          refine sm_get (ci := 12) (C := RX12) (T := TX12) (N := 54) (v := .ref (adr (a0 + 6))) hx hb hts hin12 hown hE hP ha0 rfl rfl 10 (by decide) (hts (.fieldLink RX12 41 "OrderMoverModel" "powersJ" "[I") (by decide +kernel)) (fun _ h9 => h9) rfl dX12_gives_100 ?_
          refine lv_bipush (v := (8 : Int32)) hx hb dX12_gives_103 (by decide) ?_
          refine lv_iload_n hx hb dX12_gives_105 rfl (lv_at hl 1 rfl) ?_
          refine lv_imul hx hb dX12_gives_106 ?_
          refine lv_iload_n hx hb dX12_gives_107 rfl (lv_at hl 2 rfl) ?_
          refine lv_iadd hx hb dX12_gives_108 ?_
          refine lv_aload_n hx hb dX12_gives_109 rfl (lv_at hl 0 rfl) ?_
          refine sm_get (ci := 12) (C := RX12) (T := TX12) (N := 54) (v := .ref (adr (a0 + 39))) hx hb hts hin12 hown hE hP ha0 rfl rfl 51 (by decide) (hts (.fieldLink RX12 141 "OrderMoverModel" "makesJ" "[I") (by decide +kernel)) (fun _ h9 => h9) rfl dX12_gives_110 ?_
          refine lv_iload_n hx hb dX12_gives_113 rfl (lv_at hl 3 rfl) ?_
          obtain ⟨c114_1905, h⟩ := sm_ck h
          refine sm_iald hx hb hE hP (t12_51 ha0) c114_1905 dX12_gives_114 ?_
          obtain ⟨c115_1906, h⟩ := sm_ck h
          refine sm_iast hx hb hE hJ hP hS (t12_10 ha0) c115_1906 dX12_gives_115 (fun H locs hP hS => ?_)
          obtain ⟨M115_1907, hM, h⟩ := sm_lt h
          rw [← hM] at hP; clear hM
          refine lv_iinc (v := (x2_48_1889 + (1 : Int32))) (lv' := [(2, .int (x2_48_1889 + (1 : Int32))), (0, .ref (adr a0)), (1, .int x1), (3, .int x3_48_1890)]) hx hb dX12_gives_116 hl (k := 2) rfl (congrArg (fun z => x2_48_1889 + z) (by decide)) (by decide) rfl (fun ls hl => ?_)
          refine lv_iinc (v := (x3_48_1890 + (1 : Int32))) (lv' := [(3, .int (x3_48_1890 + (1 : Int32))), (2, .int (x2_48_1889 + (1 : Int32))), (0, .ref (adr a0)), (1, .int x1)]) hx hb dX12_gives_119 hl (k := 3) rfl (congrArg (fun z => x3_48_1890 + z) (by decide)) (by decide) rfl (fun ls hl => ?_)
          refine lv_goto (tgt := 48) hx hb dX12_gives_122 (by decide) ?_
          exact ih48_1893 ((x2_48_1889 + (1 : Int32)), (x3_48_1890 + (1 : Int32)), M115_1907) _ _ _ h ⟨hP, hS, lv_sub hl [2, 3, 1, 0] rfl⟩
    · rw [if_neg c38_1888] at h
      refine lv_bipush (v := (-3 : Int32)) hx hb dX12_gives_41 (by decide) ?_
      cases h
      exact sm_iret hx hb hr hlocks hP hS dX12_gives_43
  · rw [if_neg c9_1887] at h
    refine lv_iload_n hx hb dX12_gives_12 rfl (lv_at hl 2 rfl) ?_
    refine lv_aload_n hx hb dX12_gives_13 rfl (lv_at hl 0 rfl) ?_
    refine sm_get (ci := 12) (C := RX12) (T := TX12) (N := 54) (v := .ref (adr (a0 + 37))) hx hb hts hin12 hown hE hP ha0 rfl rfl 49 (by decide) (hts (.fieldLink RX12 135 "OrderMoverModel" "makes" "[I") (by decide +kernel)) (fun _ h9 => h9) rfl dX12_gives_14 ?_
    refine lv_iload_n hx hb dX12_gives_17 rfl (lv_at hl 3 rfl) ?_
    obtain ⟨c18_1908, h⟩ := sm_ck h
    refine sm_iald hx hb hE hP (t12_49 ha0) c18_1908 dX12_gives_18 ?_
    refine lv_if_eq (tgt := 26) hx hb dX12_gives_19 (by decide) (fun c19_1909 => ?_) (fun c19_1909 => ?_)
    · rw [if_pos c19_1909] at h
      refine lv_iconst (v := (0 : Int32)) hx hb dX12_gives_26 (by decide) ?_
      refine lv_iadd hx hb dX12_gives_27 ?_
      refine lv_istore_n (lv' := [(2, .int (x2_4_1883 + (0 : Int32))), (0, .ref (adr a0)), (1, .int x1), (3, .int x3_4_1884)]) hx hb dX12_gives_28 rfl hl (by decide) rfl (fun ls hl => ?_)
      refine lv_iinc (v := (x3_4_1884 + (1 : Int32))) (lv' := [(3, .int (x3_4_1884 + (1 : Int32))), (2, .int (x2_4_1883 + (0 : Int32))), (0, .ref (adr a0)), (1, .int x1)]) hx hb dX12_gives_29 hl (k := 3) rfl (congrArg (fun z => x3_4_1884 + z) (by decide)) (by decide) rfl (fun ls hl => ?_)
      refine lv_goto (tgt := 4) hx hb dX12_gives_32 (by decide) ?_
      exact ih4_1886 ((x2_4_1883 + (0 : Int32)), (x3_4_1884 + (1 : Int32))) _ _ _ h ⟨hP, hS, lv_sub hl [2, 3, 1, 0] rfl⟩
    · rw [if_neg c19_1909] at h
      refine lv_iconst (v := (1 : Int32)) hx hb dX12_gives_22 (by decide) ?_
      refine lv_goto (tgt := 27) hx hb dX12_gives_23 (by decide) ?_
      refine lv_iadd hx hb dX12_gives_27 ?_
      refine lv_istore_n (lv' := [(2, .int (x2_4_1883 + (1 : Int32))), (0, .ref (adr a0)), (1, .int x1), (3, .int x3_4_1884)]) hx hb dX12_gives_28 rfl hl (by decide) rfl (fun ls hl => ?_)
      refine lv_iinc (v := (x3_4_1884 + (1 : Int32))) (lv' := [(3, .int (x3_4_1884 + (1 : Int32))), (2, .int (x2_4_1883 + (1 : Int32))), (0, .ref (adr a0)), (1, .int x1)]) hx hb dX12_gives_29 hl (k := 3) rfl (congrArg (fun z => x3_4_1884 + z) (by decide)) (by decide) rfl (fun ls hl => ?_)
      refine lv_goto (tgt := 4) hx hb dX12_gives_32 (by decide) ?_
      exact ih4_1886 ((x2_4_1883 + (1 : Int32)), (x3_4_1884 + (1 : Int32))) _ _ _ h ⟨hP, hS, lv_sub hl [2, 3, 1, 0] rfl⟩
set_option maxHeartbeats 4000000 in
set_option maxRecDepth 100000 in
theorem k_X12_add (l : Launch) (D : va_G) (cA : Nat → ClassId) (adr : Nat → Nat) (hJ : smJ 2 adr) (a0 : Nat) (x1 : Int32) (x2 : Int32) (x3 : Int32) (x4 : Int32) (ha0 : smT 2 a0 12) (M : smM) (v1 : Int32) (M1 : smM) (h : m_X12_add a0 x1 x2 x3 x4 M = some (v1, M1)) : Met l yX12_add wsX12_add ({ frames := 2, cells := 0, slots := 0, locals := 47 }) (smPc D cA 2 adr M [.ref (adr a0), .int x1, .int x2, .int x3, .int x4]) (smQi D cA 2 adr M1 v1) 0 0 (smA 2 adr) := by
  refine Met.ofW (cc := cX12_add) (maxL := 6) (ret := (some .int)) (by decide) rfl ?_
  intro p e s m args below meth c s₁ B hml hv
  obtain ⟨rfl, hE, hP⟩ := hv
  have hx := B.exec
  have hb := B.bytes
  have hr := B.returns
  have hts := atoms_spec (ws := wsX12_add) B.pre
  have hown : s.vm.findClass RX12 = some m.cls := findClass_of_methodNamed B.named
  have hlocks := B.notSynchronized
  have hS : va_S (smA 2 adr) s.heap s.heap [] := va_S.rf
  have hP : smP D cA 2 adr M s.heap := hP
  have hl := lv_entry ([.ref (adr a0), .int x1, .int x2, .int x3, .int x4]) (n := 6) (Nat.le_of_ble_eq_true rfl)
  rw [lg_entry_eq]
  generalize (lg_sl ([.ref (adr a0), .int x1, .int x2, .int x3, .int x4]) ++ List.replicate (6 - (lg_sl ([.ref (adr a0), .int x1, .int x2, .int x3, .int x4])).length) Slot.unset).toArray = ls at hl ⊢
  have hl : lv_has ls 6 [(0, .ref (adr a0)), (1, .int x1), (2, .int x2), (3, .int x3), (4, .int x4)] := hl
  unfold m_X12_add at h
  have hin12 : ∀ w ∈ u_ws RX12 TX12 54, w ∈ wsX12_add := by decide +kernel
  refine lv_iload_n hx hb dX12_add_0 rfl (lv_at hl 1 rfl) ?_
  obtain ⟨v1_1910, hc1_1912, h⟩ := sm_bd h
  refine sm_ci (va_runS (As := [.int x1]) (rest := []) ⟨hx, hb, hml, hown, hts⟩ (k_X12_isSlot l D cA adr hJ x1  M v1_1910 hc1_1912) (va_cwS 1 hts gX12_add_X12_isSlot rfl rfl rfl (by decide +kernel) ⟨Nat.le_of_ble_eq_true rfl, Nat.le_of_ble_eq_true rfl⟩) ⟨smPc_bl, smPc_in [.int x1] hE hP⟩ rfl rfl hl.1 rfl (lv_room (Nat.le_of_ble_eq_true rfl)) dX12_add_1 ⟨Nat.zero_le _, Nat.zero_le _⟩) hS (fun H locs hP hS => ?_)
  refine lv_if_eq (tgt := 32) hx hb dX12_add_4 (by decide) (fun c4_1913 => ?_) (fun c4_1913 => ?_)
  · rw [if_pos c4_1913] at h
    refine lv_iconst (v := (-1 : Int32)) hx hb dX12_add_32 (by decide) ?_
    cases h
    exact sm_iret hx hb hr hlocks hP hS dX12_add_33
  · rw [if_neg c4_1913] at h
    refine lv_iload_n hx hb dX12_add_7 rfl (lv_at hl 2 rfl) ?_
    refine lv_i2l hx hb dX12_add_8 rfl ?_
    refine lv_lconst (v := (0 : Int64)) hx hb dX12_add_9 (by decide) ?_
    refine lv_aload_n hx hb dX12_add_10 rfl (lv_at hl 0 rfl) ?_
    refine sm_get (ci := 12) (C := RX12) (T := TX12) (N := 54) (v := .int (M a0 0)) hx hb hts hin12 hown hE hP ha0 rfl rfl 0 (by decide) (hts (.fieldLink RX12 7 "OrderMoverModel" "p" "I") (by decide +kernel)) (fun _ h9 => h9) rfl dX12_add_11 ?_
    refine lv_iconst (v := (1 : Int32)) hx hb dX12_add_14 (by decide) ?_
    refine lv_isub hx hb dX12_add_15 ?_
    refine lv_i2l hx hb dX12_add_16 rfl ?_
    obtain ⟨v17_1914, hc17_1916, h⟩ := sm_bd h
    refine sm_ci (va_runS (As := [.long ((x2).toInt64), .long (0 : Int64), .long ((((M a0 0) - (1 : Int32))).toInt64)]) (rest := []) ⟨hx, hb, hml, hown, hts⟩ (k_X12_in l D cA adr hJ ((x2).toInt64) (0 : Int64) ((((M a0 0) - (1 : Int32))).toInt64)  M v17_1914 hc17_1916) (va_cwS 3 hts gX12_add_X12_in rfl rfl rfl (by decide +kernel) ⟨Nat.le_of_ble_eq_true rfl, Nat.le_of_ble_eq_true rfl⟩) ⟨smPc_bl, smPc_in [.long ((x2).toInt64), .long (0 : Int64), .long ((((M a0 0) - (1 : Int32))).toInt64)] hE hP⟩ rfl rfl hl.1 rfl (lv_room (Nat.le_of_ble_eq_true rfl)) dX12_add_17 ⟨Nat.zero_le _, Nat.zero_le _⟩) hS (fun H locs hP hS => ?_)
    refine lv_if_eq (tgt := 32) hx hb dX12_add_20 (by decide) (fun c20_1917 => ?_) (fun c20_1917 => ?_)
    · rw [if_pos c20_1917] at h
      refine lv_iconst (v := (-1 : Int32)) hx hb dX12_add_32 (by decide) ?_
      cases h
      exact sm_iret hx hb hr hlocks hP hS dX12_add_33
    · rw [if_neg c20_1917] at h
      refine lv_iload_n hx hb dX12_add_23 rfl (lv_at hl 3 rfl) ?_
      refine lv_if_lt (tgt := 32) hx hb dX12_add_24 (by decide) (fun c24_1918 => ?_) (fun c24_1918 => ?_)
      · rw [if_pos c24_1918] at h
        refine lv_iconst (v := (-1 : Int32)) hx hb dX12_add_32 (by decide) ?_
        cases h
        exact sm_iret hx hb hr hlocks hP hS dX12_add_33
      · rw [if_neg c24_1918] at h
        refine lv_iload hx hb dX12_add_27 (lv_at hl 4 rfl) ?_
        refine lv_if_ge (tgt := 34) hx hb dX12_add_29 (by decide) (fun c29_1919 => ?_) (fun c29_1919 => ?_)
        · rw [if_pos c29_1919] at h
          refine lv_aload_n hx hb dX12_add_34 rfl (lv_at hl 0 rfl) ?_
          refine lv_iload_n hx hb dX12_add_35 rfl (lv_at hl 1 rfl) ?_
          refine lv_iconst (v := (1 : Int32)) hx hb dX12_add_36 (by decide) ?_
          obtain ⟨v37_1920, hc37_1922, h⟩ := sm_bd h
          refine sm_ci (va_runV (As := [.int x1, .int (1 : Int32)]) (rest := []) ⟨hx, hb, hml, hown, hts⟩ (k_X12_lacks l D cA adr hJ a0 x1 (1 : Int32) ha0 M v37_1920 hc37_1922) (cwV 2 hts gX12_add_X12_lacks rfl rfl rfl (by decide +kernel) ⟨Nat.le_of_ble_eq_true rfl, Nat.le_of_ble_eq_true rfl⟩) ⟨smPc_bl, smRv hE hP ha0 rfl (ci := 12) (q := (RX12, TX12, 54)) rfl, smPc_in [.ref (adr a0), .int x1, .int (1 : Int32)] hE hP⟩ rfl rfl hl.1 rfl (lv_room (Nat.le_of_ble_eq_true rfl)) dX12_add_37 ⟨Nat.zero_le _, Nat.zero_le _⟩) hS (fun H locs hP hS => ?_)
          refine lv_istore (lv' := [(5, .int v37_1920), (0, .ref (adr a0)), (1, .int x1), (2, .int x2), (3, .int x3), (4, .int x4)]) hx hb dX12_add_40 hl (by decide) rfl (fun ls hl => ?_)
          refine lv_iload hx hb dX12_add_42 (lv_at hl 0 rfl) ?_
          refine lv_if_ge (tgt := 50) hx hb dX12_add_44 (by decide) (fun c44_1923 => ?_) (fun c44_1923 => ?_)
          · rw [if_pos c44_1923] at h
            refine lv_aload_n hx hb dX12_add_50 rfl (lv_at hl 1 rfl) ?_
            refine lv_iload_n hx hb dX12_add_51 rfl (lv_at hl 2 rfl) ?_
            obtain ⟨M52_1925, hc52_1926, h⟩ := sm_bd h
            refine sm_cv (va_runV (As := [.int x1]) (rest := []) ⟨hx, hb, hml, hown, hts⟩ (k_X12_takes l D cA adr hJ a0 x1 ha0 M M52_1925 hc52_1926) (cwV 1 hts gX12_add_X12_takes rfl rfl rfl (by decide +kernel) ⟨Nat.le_of_ble_eq_true rfl, Nat.le_of_ble_eq_true rfl⟩) ⟨smPc_bl, smRv hE hP ha0 rfl (ci := 12) (q := (RX12, TX12, 54)) rfl, smPc_in [.ref (adr a0), .int x1] hE hP⟩ rfl rfl hl.1 rfl (lv_room (Nat.le_of_ble_eq_true rfl)) dX12_add_52 ⟨Nat.zero_le _, Nat.zero_le _⟩) hS (fun H locs hP hS => ?_)
            refine lv_aload_n hx hb dX12_add_55 rfl (lv_at hl 1 rfl) ?_
            refine lv_iload_n hx hb dX12_add_56 rfl (lv_at hl 3 rfl) ?_
            refine lv_iload_n hx hb dX12_add_57 rfl (lv_at hl 4 rfl) ?_
            refine lv_iload hx hb dX12_add_58 (lv_at hl 5 rfl) ?_
            obtain ⟨M60_1928, hc60_1929, h⟩ := sm_bd h
            refine sm_cv (va_runV (As := [.int x2, .int x3, .int x4]) (rest := []) ⟨hx, hb, hml, hown, hts⟩ (k_X12_comes l D cA adr hJ a0 x2 x3 x4 ha0 M52_1925 M60_1928 hc60_1929) (cwV 3 hts gX12_add_X12_comes rfl rfl rfl (by decide +kernel) ⟨Nat.le_of_ble_eq_true rfl, Nat.le_of_ble_eq_true rfl⟩) ⟨smPc_bl, smRv hE hP ha0 rfl (ci := 12) (q := (RX12, TX12, 54)) rfl, smPc_in [.ref (adr a0), .int x2, .int x3, .int x4] hE hP⟩ rfl rfl hl.1 rfl (lv_room (Nat.le_of_ble_eq_true rfl)) dX12_add_60 ⟨Nat.zero_le _, Nat.zero_le _⟩) hS (fun H locs hP hS => ?_)
            refine lv_aload_n hx hb dX12_add_63 rfl (lv_at hl 1 rfl) ?_
            refine lv_iload_n hx hb dX12_add_64 rfl (lv_at hl 2 rfl) ?_
            obtain ⟨v65_1930, M65_1931, hc65_1932, h⟩ := sm_bd2 h
            refine sm_ci (va_runV (As := [.int x1]) (rest := []) ⟨hx, hb, hml, hown, hts⟩ (k_X12_gives l D cA adr hJ a0 x1 ha0 M60_1928 v65_1930 M65_1931 hc65_1932) (cwV 1 hts gX12_add_X12_gives rfl rfl rfl (by decide +kernel) ⟨Nat.le_of_ble_eq_true rfl, Nat.le_of_ble_eq_true rfl⟩) ⟨smPc_bl, smRv hE hP ha0 rfl (ci := 12) (q := (RX12, TX12, 54)) rfl, smPc_in [.ref (adr a0), .int x1] hE hP⟩ rfl rfl hl.1 rfl (lv_room (Nat.le_of_ble_eq_true rfl)) dX12_add_65 ⟨Nat.zero_le _, Nat.zero_le _⟩) hS (fun H locs hP hS => ?_)
            cases h
            exact sm_iret hx hb hr hlocks hP hS dX12_add_68
          · rw [if_neg c44_1923] at h
            refine lv_iload hx hb dX12_add_47 (lv_at hl 0 rfl) ?_
            cases h
            exact sm_iret hx hb hr hlocks hP hS dX12_add_49
        · rw [if_neg c29_1919] at h
          refine lv_iconst (v := (-1 : Int32)) hx hb dX12_add_32 (by decide) ?_
          cases h
          exact sm_iret hx hb hr hlocks hP hS dX12_add_33
set_option maxHeartbeats 4000000 in
set_option maxRecDepth 100000 in
theorem k_X12_dimension (l : Launch) (D : va_G) (cA : Nat → ClassId) (adr : Nat → Nat) (hJ : smJ 2 adr) (a0 : Nat) (ha0 : smT 2 a0 12) (M : smM) (v1 : Int32) (h : m_X12_dimension a0 M = some v1) : Met l yX12_dimension wsX12_dimension ({ frames := 0, cells := 0, slots := 0, locals := 0 }) (smPc D cA 2 adr M [.ref (adr a0)]) (smQi D cA 2 adr M v1) 0 0 (smA 2 adr) := by
  refine Met.ofW (cc := cX12_dimension) (maxL := 1) (ret := (some .int)) (by decide) rfl ?_
  intro p e s m args below meth c s₁ B hml hv
  obtain ⟨rfl, hE, hP⟩ := hv
  have hx := B.exec
  have hb := B.bytes
  have hr := B.returns
  have hts := atoms_spec (ws := wsX12_dimension) B.pre
  have hown : s.vm.findClass RX12 = some m.cls := findClass_of_methodNamed B.named
  have hlocks := B.notSynchronized
  have hS : va_S (smA 2 adr) s.heap s.heap [] := va_S.rf
  have hP : smP D cA 2 adr M s.heap := hP
  have hl := lv_entry ([.ref (adr a0)]) (n := 1) (Nat.le_of_ble_eq_true rfl)
  rw [lg_entry_eq]
  generalize (lg_sl ([.ref (adr a0)]) ++ List.replicate (1 - (lg_sl ([.ref (adr a0)])).length) Slot.unset).toArray = ls at hl ⊢
  have hl : lv_has ls 1 [(0, .ref (adr a0))] := hl
  unfold m_X12_dimension at h
  have hin12 : ∀ w ∈ u_ws RX12 TX12 54, w ∈ wsX12_dimension := by decide +kernel
  refine lv_aload_n hx hb dX12_dimension_0 rfl (lv_at hl 0 rfl) ?_
  refine sm_get (ci := 12) (C := RX12) (T := TX12) (N := 54) (v := .int (M a0 1)) hx hb hts hin12 hown hE hP ha0 rfl rfl 1 (by decide) (hts (.fieldLink RX12 13 "OrderMoverModel" "powerA" "I") (by decide +kernel)) (fun _ h9 => h9) rfl dX12_dimension_1 ?_
  refine lv_aload_n hx hb dX12_dimension_4 rfl (lv_at hl 0 rfl) ?_
  refine sm_get (ci := 12) (C := RX12) (T := TX12) (N := 54) (v := .int (M a0 2)) hx hb hts hin12 hown hE hP ha0 rfl rfl 2 (by decide) (hts (.fieldLink RX12 16 "OrderMoverModel" "powerB" "I") (by decide +kernel)) (fun _ h9 => h9) rfl dX12_dimension_5 ?_
  refine lv_imul hx hb dX12_dimension_8 ?_
  cases h
  exact sm_iret hx hb hr hlocks hP hS dX12_dimension_9
