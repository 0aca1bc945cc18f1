set_option maxHeartbeats 4000000 in
set_option maxRecDepth 100000 in
theorem k_X2_countRoots (l : Launch) (D : va_G) (cA : Nat → ClassId) (adr : Nat → Nat) (hJ : smJ 1 adr) (a0 : Nat) (a1 : Nat) (ha0 : smT 1 a0 2) (ha1 : smT 1 a1 7) (M : smM) (v1 : Int32) (M1 : smM) (h : m_X2_countRoots a0 a1 M = some (v1, M1)) : Met l yX2_countRoots wsX2_countRoots ({ frames := 3, cells := 0, slots := 0, locals := 76 }) (smPc D cA 1 adr M [.ref (adr a0), .ref (adr a1)]) (smQi D cA 1 adr M1 v1) 0 0 (smA 1 adr) := by
  refine Met.ofW (cc := cX2_countRoots) (maxL := 3) (ret := (some .int)) (by decide) rfl ?_
  intro p e s m args below meth c s₁ B hml hv
  obtain ⟨rfl, hE, hP⟩ := hv
  have hx := B.exec
  have hb := B.bytes
  have hr := B.returns
  have hts := atoms_spec (ws := wsX2_countRoots) B.pre
  have hown : s.vm.findClass RX2 = some m.cls := findClass_of_methodNamed B.named
  have hlocks := B.notSynchronized
  have hS : va_S (smA 1 adr) s.heap s.heap [] := va_S.rf
  have hP : smP D cA 1 adr M s.heap := hP
  have hl := lv_entry ([.ref (adr a0), .ref (adr a1)]) (n := 3) (Nat.le_of_ble_eq_true rfl)
  rw [lg_entry_eq]
  generalize (lg_sl ([.ref (adr a0), .ref (adr a1)]) ++ List.replicate (3 - (lg_sl ([.ref (adr a0), .ref (adr a1)])).length) Slot.unset).toArray = ls at hl ⊢
  have hl : lv_has ls 3 [(0, .ref (adr a0)), (1, .ref (adr a1))] := hl
  unfold m_X2_countRoots at h
  have hin2 : ∀ w ∈ u_ws RX2 TX2 9, w ∈ wsX2_countRoots := by decide +kernel
  have hin7 : ∀ w ∈ u_ws RX7 TX7 7, w ∈ wsX2_countRoots := by decide +kernel
  refine lv_aload_n hx hb dX2_countRoots_0 rfl (lv_at hl 0 rfl) ?_
  refine sm_get (ci := 2) (C := RX2) (T := TX2) (N := 9) (v := .int (M a0 7)) hx hb hts hin2 hown hE hP ha0 rfl rfl 7 (by decide) (hts (.fieldLink RX2 41 "OrderMover$Ideal" "roots" "I") (by decide +kernel)) (fun _ h9 => h9) rfl dX2_countRoots_1 ?_
  refine lv_if_lt (tgt := 12) hx hb dX2_countRoots_4 (by decide) (fun c4_542 => ?_) (fun c4_542 => ?_)
  · rw [if_pos c4_542] at h
    refine lv_aload_n hx hb dX2_countRoots_12 rfl (lv_at hl 0 rfl) ?_
    refine lv_iconst (v := (0 : Int32)) hx hb dX2_countRoots_13 (by decide) ?_
    refine sm_put (ci := 2) (C := RX2) (T := TX2) (N := 9) (ty := .int) hx hb hts hin2 tyX2 tyX2_ok nmX2 hown hE hJ hP hS ha0 rfl rfl 7 (by decide) (hts (.fieldLink RX2 41 "OrderMover$Ideal" "roots" "I") (by decide +kernel)) (fun _ h9 => h9) rfl (by decide +kernel) rfl rfl (Nat.le_of_ble_eq_true rfl) rfl dX2_countRoots_14 (fun H locs hP hS => ?_)
    obtain ⟨M14_543, hM, h⟩ := sm_lt h
    rw [← hM] at hP; clear hM
    refine lv_iconst (v := (0 : Int32)) hx hb dX2_countRoots_17 (by decide) ?_
    refine lv_istore_n (lv' := [(2, .int (0 : Int32)), (0, .ref (adr a0)), (1, .ref (adr a1))]) hx hb dX2_countRoots_18 rfl hl (by decide) rfl (fun ls hl => ?_)
    refine sm_lp (b := fun rc q => m_X2_countRoots_b19 a0 a1 rc q.1 q.2) (P := fun (q : Int32 × smM) H locs ls => smP D cA 1 adr q.2 H ∧ va_S (smA 1 adr) s.heap H locs ∧ lv_has ls 3 [(0, .ref (adr a0)), (1, .ref (adr a1)), (2, .int q.1)]) (pc := 19) ?_ _ _ _ _ _ h ⟨hP, hS, lv_sub hl [1, 2, 0] rfl⟩
    intro rc19_546 ih19_547 q H locs ls h hI
    obtain ⟨x2_19_544, M19_545⟩ := q
    obtain ⟨hP, hS, hl⟩ := hI
    have hP : smP D cA 1 adr M19_545 H := hP
    have hl : lv_has ls 3 [(0, .ref (adr a0)), (1, .ref (adr a1)), (2, .int x2_19_544)] := hl
    have h : m_X2_countRoots_b19 a0 a1 rc19_546 x2_19_544 M19_545 = some _ := h
    unfold m_X2_countRoots_b19 at h
    refine lv_iload_n hx hb dX2_countRoots_19 rfl (lv_at hl 2 rfl) ?_
    refine lv_aload_n hx hb dX2_countRoots_20 rfl (lv_at hl 1 rfl) ?_
    refine sm_get (ci := 7) (C := RX7) (T := TX7) (N := 7) (v := .int (M19_545 a1 0)) hx hb hts hin7 hown hE hP ha1 rfl rfl 0 (by decide) (hts (.fieldLink RX2 79 "OrderMover$Setting" "p" "I") (by decide +kernel)) (fun _ h9 => h9) rfl dX2_countRoots_21 ?_
    refine lv_icmp_ge (tgt := 52) hx hb dX2_countRoots_24 (by decide) (fun c24_548 => ?_) (fun c24_548 => ?_)
    · rw [if_pos c24_548] at h
      refine lv_aload_n hx hb dX2_countRoots_52 rfl (lv_at hl 0 rfl) ?_
      refine sm_get (ci := 2) (C := RX2) (T := TX2) (N := 9) (v := .int (M19_545 a0 7)) hx hb hts hin2 hown hE hP ha0 rfl rfl 7 (by decide) (hts (.fieldLink RX2 41 "OrderMover$Ideal" "roots" "I") (by decide +kernel)) (fun _ h9 => h9) rfl dX2_countRoots_53 ?_
      cases h
      exact sm_iret hx hb hr hlocks hP hS dX2_countRoots_56
    · rw [if_neg c24_548] at h
      refine lv_aload_n hx hb dX2_countRoots_27 rfl (lv_at hl 0 rfl) ?_
      refine sm_get (ci := 2) (C := RX2) (T := TX2) (N := 9) (v := .ref (adr (a0 + 40))) hx hb hts hin2 hown hE hP ha0 rfl rfl 1 (by decide) (hts (.fieldLink RX2 20 "OrderMover$Ideal" "leasts" "[LOrderMover$Least;") (by decide +kernel)) (fun _ h9 => h9) rfl dX2_countRoots_28 ?_
      refine lv_iconst (v := (0 : Int32)) hx hb dX2_countRoots_31 (by decide) ?_
      obtain ⟨c32_549, h⟩ := sm_ck h
      refine sm_aald25 hx hb hE hP (t2_1 ha0) c32_549 dX2_countRoots_32 ?_
      refine lv_iload_n hx hb dX2_countRoots_33 rfl (lv_at hl 2 rfl) ?_
      obtain ⟨v34_550, hc34_552, h⟩ := sm_bd h
      refine sm_ci (va_runV (As := [.int x2_19_544]) (rest := []) ⟨hx, hb, hml, hown, hts⟩ (k_X3_isZeroAt l D cA adr hJ ((a0 + 40) + 1 + 6 * ((0 : Int32)).toNatClampNeg) x2_19_544 (te25 (t2_1 ha0) c32_549) M19_545 v34_550 hc34_552) (cwV 1 hts gX2_countRoots_X3_isZeroAt rfl rfl rfl (by decide +kernel) ⟨Nat.le_of_ble_eq_true rfl, Nat.le_of_ble_eq_true rfl⟩) ⟨smPc_bl, smRv hE hP (te25 (t2_1 ha0) c32_549) rfl (ci := 3) (q := (RX3, TX3, 7)) rfl, smPc_in [.ref (adr ((a0 + 40) + 1 + 6 * ((0 : Int32)).toNatClampNeg)), .int x2_19_544] hE hP⟩ rfl rfl hl.1 rfl (lv_room (Nat.le_of_ble_eq_true rfl)) dX2_countRoots_34 ⟨Nat.zero_le _, Nat.zero_le _⟩) hS (fun H locs hP hS => ?_)
      refine lv_if_eq (tgt := 46) hx hb dX2_countRoots_37 (by decide) (fun c37_553 => ?_) (fun c37_553 => ?_)
      · rw [if_pos c37_553] at h
        refine lv_iinc (v := (x2_19_544 + (1 : Int32))) (lv' := [(2, .int (x2_19_544 + (1 : Int32))), (0, .ref (adr a0)), (1, .ref (adr a1))]) hx hb dX2_countRoots_46 hl (k := 2) rfl (congrArg (fun z => x2_19_544 + z) (by decide)) (by decide) rfl (fun ls hl => ?_)
        refine lv_goto (tgt := 19) hx hb dX2_countRoots_49 (by decide) ?_
        exact ih19_547 ((x2_19_544 + (1 : Int32)), M19_545) _ _ _ h ⟨hP, hS, lv_sub hl [1, 2, 0] rfl⟩
      · rw [if_neg c37_553] at h
        refine lv_aload_n hx hb dX2_countRoots_40 rfl (lv_at hl 0 rfl) ?_
        refine lv_aload_n hx hb dX2_countRoots_41 rfl (lv_at hl 1 rfl) ?_
        refine lv_iload_n hx hb dX2_countRoots_42 rfl (lv_at hl 2 rfl) ?_
        obtain ⟨M43_555, hc43_556, h⟩ := sm_bd h
        refine sm_cv (va_runV (As := [.ref (adr a1), .int x2_19_544]) (rest := []) ⟨hx, hb, hml, hown, hts⟩ (k_X2_findRootsAt l D cA adr hJ a0 a1 x2_19_544 ha0 ha1 M19_545 M43_555 hc43_556) (cwV 2 hts gX2_countRoots_X2_findRootsAt rfl rfl rfl (by decide +kernel) ⟨Nat.le_of_ble_eq_true rfl, Nat.le_of_ble_eq_true rfl⟩) ⟨smPc_bl, smRv hE hP ha0 rfl (ci := 2) (q := (RX2, TX2, 9)) rfl, smPc_in [.ref (adr a0), .ref (adr a1), .int x2_19_544] hE hP⟩ rfl rfl hl.1 rfl (lv_room (Nat.le_of_ble_eq_true rfl)) dX2_countRoots_43 ⟨Nat.zero_le _, Nat.zero_le _⟩) hS (fun H locs hP hS => ?_)
        refine lv_iinc (v := (x2_19_544 + (1 : Int32))) (lv' := [(2, .int (x2_19_544 + (1 : Int32))), (0, .ref (adr a0)), (1, .ref (adr a1))]) hx hb dX2_countRoots_46 hl (k := 2) rfl (congrArg (fun z => x2_19_544 + z) (by decide)) (by decide) rfl (fun ls hl => ?_)
        refine lv_goto (tgt := 19) hx hb dX2_countRoots_49 (by decide) ?_
        exact ih19_547 ((x2_19_544 + (1 : Int32)), M43_555) _ _ _ h ⟨hP, hS, lv_sub hl [1, 2, 0] rfl⟩
  · rw [if_neg c4_542] at h
    refine lv_aload_n hx hb dX2_countRoots_7 rfl (lv_at hl 0 rfl) ?_
    refine sm_get (ci := 2) (C := RX2) (T := TX2) (N := 9) (v := .int (M a0 7)) hx hb hts hin2 hown hE hP ha0 rfl rfl 7 (by decide) (hts (.fieldLink RX2 41 "OrderMover$Ideal" "roots" "I") (by decide +kernel)) (fun _ h9 => h9) rfl dX2_countRoots_8 ?_
    cases h
    exact sm_iret hx hb hr hlocks hP hS dX2_countRoots_11
set_option maxHeartbeats 4000000 in
set_option maxRecDepth 100000 in
theorem k_X2_forget (l : Launch) (D : va_G) (cA : Nat → ClassId) (adr : Nat → Nat) (hJ : smJ 1 adr) (a0 : Nat) (ha0 : smT 1 a0 2) (M : smM) (M1 : smM) (h : m_X2_forget a0 M = some M1) : Met l yX2_forget wsX2_forget ({ frames := 0, cells := 0, slots := 0, locals := 0 }) (smPc D cA 1 adr M [.ref (adr a0)]) (smQv D cA 1 adr M1) 0 0 (smA 1 adr) := by
  refine Met.ofW (cc := cX2_forget) (maxL := 1) (ret := none) (by decide) rfl ?_
  intro p e s m args below meth c s₁ B hml hv
  obtain ⟨rfl, hE, hP⟩ := hv
  have hx := B.exec
  have hb := B.bytes
  have hr := B.returns
  have hts := atoms_spec (ws := wsX2_forget) B.pre
  have hown : s.vm.findClass RX2 = some m.cls := findClass_of_methodNamed B.named
  have hlocks := B.notSynchronized
  have hS : va_S (smA 1 adr) s.heap s.heap [] := va_S.rf
  have hP : smP D cA 1 adr M s.heap := hP
  have hl := lv_entry ([.ref (adr a0)]) (n := 1) (Nat.le_of_ble_eq_true rfl)
  rw [lg_entry_eq]
  generalize (lg_sl ([.ref (adr a0)]) ++ List.replicate (1 - (lg_sl ([.ref (adr a0)])).length) Slot.unset).toArray = ls at hl ⊢
  have hl : lv_has ls 1 [(0, .ref (adr a0))] := hl
  unfold m_X2_forget at h
  have hin2 : ∀ w ∈ u_ws RX2 TX2 9, w ∈ wsX2_forget := by decide +kernel
  refine lv_aload_n hx hb dX2_forget_0 rfl (lv_at hl 0 rfl) ?_
  refine lv_iconst (v := (0 : Int32)) hx hb dX2_forget_1 (by decide) ?_
  refine sm_put (ci := 2) (C := RX2) (T := TX2) (N := 9) (ty := .boolean) hx hb hts hin2 tyX2 tyX2_ok nmX2 hown hE hJ hP hS ha0 rfl rfl 6 (by decide) (hts (.fieldLink RX2 50 "OrderMover$Ideal" "current" "Z") (by decide +kernel)) (fun _ h9 => h9) rfl (by decide +kernel) (by decide) (by decide) (Nat.le_of_ble_eq_true rfl) rfl dX2_forget_2 (fun H locs hP hS => ?_)
  obtain ⟨M2_557, hM, h⟩ := sm_lt h
  rw [← hM] at hP; clear hM
  cases h
  exact sm_vret hx hb hr hlocks hP hS dX2_forget_5
set_option maxHeartbeats 4000000 in
set_option maxRecDepth 100000 in
theorem k_X2_isPlain (l : Launch) (D : va_G) (cA : Nat → ClassId) (adr : Nat → Nat) (hJ : smJ 1 adr) (a0 : Nat) (ha0 : smT 1 a0 2) (M : smM) (v1 : Int32) (h : m_X2_isPlain a0 M = some v1) : Met l yX2_isPlain wsX2_isPlain ({ frames := 0, cells := 0, slots := 0, locals := 0 }) (smPc D cA 1 adr M [.ref (adr a0)]) (smQi D cA 1 adr M v1) 0 0 (smA 1 adr) := by
  refine Met.ofW (cc := cX2_isPlain) (maxL := 2) (ret := (some .boolean)) (by decide) rfl ?_
  intro p e s m args below meth c s₁ B hml hv
  obtain ⟨rfl, hE, hP⟩ := hv
  have hx := B.exec
  have hb := B.bytes
  have hr := B.returns
  have hts := atoms_spec (ws := wsX2_isPlain) B.pre
  have hown : s.vm.findClass RX2 = some m.cls := findClass_of_methodNamed B.named
  have hlocks := B.notSynchronized
  have hS : va_S (smA 1 adr) s.heap s.heap [] := va_S.rf
  have hP : smP D cA 1 adr M s.heap := hP
  have hl := lv_entry ([.ref (adr a0)]) (n := 2) (Nat.le_of_ble_eq_true rfl)
  rw [lg_entry_eq]
  generalize (lg_sl ([.ref (adr a0)]) ++ List.replicate (2 - (lg_sl ([.ref (adr a0)])).length) Slot.unset).toArray = ls at hl ⊢
  have hl : lv_has ls 2 [(0, .ref (adr a0))] := hl
  unfold m_X2_isPlain at h
  have hin0 : ∀ w ∈ u_ws RX0 TX0 9, w ∈ wsX2_isPlain := by decide +kernel
  have hin2 : ∀ w ∈ u_ws RX2 TX2 9, w ∈ wsX2_isPlain := by decide +kernel
  have hin4 : ∀ w ∈ u_ws RX4 TX4 4, w ∈ wsX2_isPlain := by decide +kernel
  have hin9 : ∀ w ∈ u_ws RX9 TX9 5, w ∈ wsX2_isPlain := by decide +kernel
  refine lv_iconst (v := (0 : Int32)) hx hb dX2_isPlain_0 (by decide) ?_
  refine lv_istore_n (lv' := [(1, .int (0 : Int32)), (0, .ref (adr a0))]) hx hb dX2_isPlain_1 rfl hl (by decide) rfl (fun ls hl => ?_)
  refine sm_lp (b := fun rc q => m_X2_isPlain_b2 a0 M rc q) (P := fun (q : Int32) H locs ls => smP D cA 1 adr M H ∧ va_S (smA 1 adr) s.heap H locs ∧ lv_has ls 2 [(0, .ref (adr a0)), (1, .int q)]) (pc := 2) ?_ _ _ _ _ _ h ⟨hP, hS, lv_sub hl [1, 0] rfl⟩
  intro rc2_559 ih2_560 q H locs ls h hI
  obtain ⟨x1_2_558, hq⟩ : ∃ y, y = q := ⟨_, rfl⟩; subst hq
  obtain ⟨hP, hS, hl⟩ := hI
  have hP : smP D cA 1 adr M H := hP
  have hl : lv_has ls 2 [(0, .ref (adr a0)), (1, .int x1_2_558)] := hl
  have h : m_X2_isPlain_b2 a0 M rc2_559 x1_2_558 = some _ := h
  unfold m_X2_isPlain_b2 at h
  refine lv_iload_n hx hb dX2_isPlain_2 rfl (lv_at hl 1 rfl) ?_
  refine lv_aload_n hx hb dX2_isPlain_3 rfl (lv_at hl 0 rfl) ?_
  refine sm_get (ci := 2) (C := RX2) (T := TX2) (N := 9) (v := .ref (adr (a0 + 55))) hx hb hts hin2 hown hE hP ha0 rfl rfl 4 (by decide) (hts (.fieldLink RX2 33 "OrderMover$Ideal" "bases" "[LOrderMover$Base;") (by decide +kernel)) (fun _ h9 => h9) rfl dX2_isPlain_4 ?_
  refine lv_iconst (v := (0 : Int32)) hx hb dX2_isPlain_7 (by decide) ?_
  obtain ⟨c8_561, h⟩ := sm_ck h
  refine sm_aald26 hx hb hE hP (t2_4 ha0) c8_561 dX2_isPlain_8 ?_
  refine sm_get (ci := 0) (C := RX0) (T := TX0) (N := 9) (v := .ref (adr (((a0 + 55) + 1 + 58 * ((0 : Int32)).toNatClampNeg) + 16))) hx hb hts hin0 hown hE hP (te26 (t2_4 ha0) c8_561) rfl rfl 2 (by decide) (hts (.fieldLink RX2 108 "OrderMover$Base" "span" "LOrderMover$Span;") (by decide +kernel)) (fun _ h9 => h9) rfl dX2_isPlain_9 ?_
  refine sm_get (ci := 9) (C := RX9) (T := TX9) (N := 5) (v := .int (M (((a0 + 55) + 1 + 58 * ((0 : Int32)).toNatClampNeg) + 16) 0)) hx hb hts hin9 hown hE hP (t0_2 (te26 (t2_4 ha0) c8_561)) rfl rfl 0 (by decide) (hts (.fieldLink RX2 112 "OrderMover$Span" "howMany" "I") (by decide +kernel)) (fun _ h9 => h9) rfl dX2_isPlain_12 ?_
  refine lv_icmp_ge (tgt := 40) hx hb dX2_isPlain_15 (by decide) (fun c15_562 => ?_) (fun c15_562 => ?_)
  · rw [if_pos c15_562] at h
    refine lv_aload_n hx hb dX2_isPlain_40 rfl (lv_at hl 0 rfl) ?_
    refine sm_get (ci := 2) (C := RX2) (T := TX2) (N := 9) (v := .ref (adr (a0 + 55))) hx hb hts hin2 hown hE hP ha0 rfl rfl 4 (by decide) (hts (.fieldLink RX2 33 "OrderMover$Ideal" "bases" "[LOrderMover$Base;") (by decide +kernel)) (fun _ h9 => h9) rfl dX2_isPlain_41 ?_
    refine lv_iconst (v := (0 : Int32)) hx hb dX2_isPlain_44 (by decide) ?_
    obtain ⟨c45_563, h⟩ := sm_ck h
    refine sm_aald26 hx hb hE hP (t2_4 ha0) c45_563 dX2_isPlain_45 ?_
    refine sm_get (ci := 0) (C := RX0) (T := TX0) (N := 9) (v := .ref (adr (((a0 + 55) + 1 + 58 * ((0 : Int32)).toNatClampNeg) + 2))) hx hb hts hin0 hown hE hP (te26 (t2_4 ha0) c45_563) rfl rfl 1 (by decide) (hts (.fieldLink RX2 70 "OrderMover$Base" "members" "LOrderMover$Members;") (by decide +kernel)) (fun _ h9 => h9) rfl dX2_isPlain_46 ?_
    refine sm_get (ci := 4) (C := RX4) (T := TX4) (N := 4) (v := .int (M (((a0 + 55) + 1 + 58 * ((0 : Int32)).toNatClampNeg) + 2) 0)) hx hb hts hin4 hown hE hP (t0_1 (te26 (t2_4 ha0) c45_563)) rfl rfl 0 (by decide) (hts (.fieldLink RX2 120 "OrderMover$Members" "howMany" "I") (by decide +kernel)) (fun _ h9 => h9) rfl dX2_isPlain_49 ?_
    refine lv_iconst (v := (2 : Int32)) hx hb dX2_isPlain_52 (by decide) ?_
    refine lv_icmp_ne (tgt := 60) hx hb dX2_isPlain_53 (by decide) (fun c53_564 => ?_) (fun c53_564 => ?_)
    · rw [if_neg c53_564] at h
      refine lv_iconst (v := (0 : Int32)) hx hb dX2_isPlain_60 (by decide) ?_
      cases h
      exact sm_zret (by first | rfl | decide) hx hb hr hlocks hP hS dX2_isPlain_61
    · rw [if_pos c53_564] at h
      refine lv_iconst (v := (1 : Int32)) hx hb dX2_isPlain_56 (by decide) ?_
      refine lv_goto (tgt := 61) hx hb dX2_isPlain_57 (by decide) ?_
      cases h
      exact sm_zret (by first | rfl | decide) hx hb hr hlocks hP hS dX2_isPlain_61
  · rw [if_neg c15_562] at h
    refine lv_aload_n hx hb dX2_isPlain_18 rfl (lv_at hl 0 rfl) ?_
    refine sm_get (ci := 2) (C := RX2) (T := TX2) (N := 9) (v := .ref (adr (a0 + 55))) hx hb hts hin2 hown hE hP ha0 rfl rfl 4 (by decide) (hts (.fieldLink RX2 33 "OrderMover$Ideal" "bases" "[LOrderMover$Base;") (by decide +kernel)) (fun _ h9 => h9) rfl dX2_isPlain_19 ?_
    refine lv_iconst (v := (0 : Int32)) hx hb dX2_isPlain_22 (by decide) ?_
    obtain ⟨c23_565, h⟩ := sm_ck h
    refine sm_aald26 hx hb hE hP (t2_4 ha0) c23_565 dX2_isPlain_23 ?_
    refine sm_get (ci := 0) (C := RX0) (T := TX0) (N := 9) (v := .ref (adr (((a0 + 55) + 1 + 58 * ((0 : Int32)).toNatClampNeg) + 38))) hx hb hts hin0 hown hE hP (te26 (t2_4 ha0) c23_565) rfl rfl 3 (by decide) (hts (.fieldLink RX2 117 "OrderMover$Base" "stairXs" "[I") (by decide +kernel)) (fun _ h9 => h9) rfl dX2_isPlain_24 ?_
    refine lv_iload_n hx hb dX2_isPlain_27 rfl (lv_at hl 1 rfl) ?_
    obtain ⟨c28_566, h⟩ := sm_ck h
    refine sm_iald hx hb hE hP (t0_3 (te26 (t2_4 ha0) c23_565)) c28_566 dX2_isPlain_28 ?_
    refine lv_if_eq (tgt := 34) hx hb dX2_isPlain_29 (by decide) (fun c29_567 => ?_) (fun c29_567 => ?_)
    · rw [if_pos c29_567] at h
      refine lv_iinc (v := (x1_2_558 + (1 : Int32))) (lv' := [(1, .int (x1_2_558 + (1 : Int32))), (0, .ref (adr a0))]) hx hb dX2_isPlain_34 hl (k := 1) rfl (congrArg (fun z => x1_2_558 + z) (by decide)) (by decide) rfl (fun ls hl => ?_)
      refine lv_goto (tgt := 2) hx hb dX2_isPlain_37 (by decide) ?_
      exact ih2_560 (x1_2_558 + (1 : Int32)) _ _ _ h ⟨hP, hS, lv_sub hl [1, 0] rfl⟩
    · rw [if_neg c29_567] at h
      refine lv_iconst (v := (0 : Int32)) hx hb dX2_isPlain_32 (by decide) ?_
      cases h
      exact sm_zret (by first | rfl | decide) hx hb hr hlocks hP hS dX2_isPlain_33
set_option maxHeartbeats 4000000 in
set_option maxRecDepth 100000 in
theorem k_X3_divideOut (l : Launch) (D : va_G) (cA : Nat → ClassId) (adr : Nat → Nat) (hJ : smJ 1 adr) (a0 : Nat) (a1 : Nat) (x2 : Int32) (a3 : Nat) (x4 : Int32) (ha0 : smT 1 a0 3) (ha1 : smT 1 a1 20) (ha3 : smT 1 a3 20) (M : smM) (M1 : smM) (h : m_X3_divideOut a0 a1 x2 a3 x4 M = some M1) : Met l yX3_divideOut wsX3_divideOut ({ frames := 1, cells := 0, slots := 0, locals := 22 }) (smPc D cA 1 adr M [.ref (adr a0), .ref (adr a1), .int x2, .ref (adr a3), .int x4]) (smQv D cA 1 adr M1) 0 0 (smA 1 adr) := by
  refine Met.ofW (cc := cX3_divideOut) (maxL := 9) (ret := none) (by decide) rfl ?_
  intro p e s m args below meth c s₁ B hml hv
  obtain ⟨rfl, hE, hP⟩ := hv
  have hx := B.exec
  have hb := B.bytes
  have hr := B.returns
  have hts := atoms_spec (ws := wsX3_divideOut) B.pre
  have hown : s.vm.findClass RX3 = some m.cls := findClass_of_methodNamed B.named
  have hlocks := B.notSynchronized
  have hS : va_S (smA 1 adr) s.heap s.heap [] := va_S.rf
  have hP : smP D cA 1 adr M s.heap := hP
  have hl := lv_entry ([.ref (adr a0), .ref (adr a1), .int x2, .ref (adr a3), .int x4]) (n := 9) (Nat.le_of_ble_eq_true rfl)
  rw [lg_entry_eq]
  generalize (lg_sl ([.ref (adr a0), .ref (adr a1), .int x2, .ref (adr a3), .int x4]) ++ List.replicate (9 - (lg_sl ([.ref (adr a0), .ref (adr a1), .int x2, .ref (adr a3), .int x4])).length) Slot.unset).toArray = ls at hl ⊢
  have hl : lv_has ls 9 [(0, .ref (adr a0)), (1, .ref (adr a1)), (2, .int x2), (3, .ref (adr a3)), (4, .int x4)] := hl
  unfold m_X3_divideOut at h
  have hin3 : ∀ w ∈ u_ws RX3 TX3 7, w ∈ wsX3_divideOut := by decide +kernel
  refine lv_aload_n hx hb dX3_divideOut_0 rfl (lv_at hl 3 rfl) ?_
  refine lv_iload hx hb dX3_divideOut_1 (lv_at hl 4 rfl) ?_
  obtain ⟨c3_568, h⟩ := sm_ck h
  refine sm_iald hx hb hE hP ha3 c3_568 dX3_divideOut_3 ?_
  refine lv_aload_n hx hb dX3_divideOut_4 rfl (lv_at hl 0 rfl) ?_
  refine sm_get (ci := 3) (C := RX3) (T := TX3) (N := 7) (v := .int (M a0 3)) hx hb hts hin3 hown hE hP ha0 rfl rfl 3 (by decide) (hts (.fieldLink RX3 27 "OrderMover$Least" "p" "I") (by decide +kernel)) (fun _ h9 => h9) rfl dX3_divideOut_5 ?_
  obtain ⟨v8_569, hc8_571, h⟩ := sm_bd h
  refine sm_ci (va_runSN (As := [.int (M a3 (x4).toNatClampNeg), .int (M a0 3)]) (rest := []) ⟨hx, hb, hml, hown, hts⟩ (k_X11_inverse l D cA adr hJ (M a3 (x4).toNatClampNeg) (M a0 3)  M v8_569 hc8_571) ⟨va_cnB (host := "OrderMover") 2 hts gX3_divideOut_X11_inverse_n67 rfl rfl rfl (hE.2 (RX3, 67, yX11_inverse, "OrderMover") (by decide +kernel)) (hts (.initialized RX11) (by decide +kernel)) (by decide +kernel) ⟨Nat.le_of_ble_eq_true rfl, Nat.le_of_ble_eq_true rfl⟩, hts (.static yX11_inverse) (by decide +kernel), trivial⟩ ⟨smPc_bl, smPc_in [.int (M a3 (x4).toNatClampNeg), .int (M a0 3)] hE hP⟩ rfl rfl hl.1 rfl (lv_room (Nat.le_of_ble_eq_true rfl)) dX3_divideOut_8 ⟨Nat.zero_le _, Nat.zero_le _⟩) hS (fun H locs hP hS => ?_)
  refine lv_istore (lv' := [(5, .int v8_569), (0, .ref (adr a0)), (1, .ref (adr a1)), (2, .int x2), (3, .ref (adr a3)), (4, .int x4)]) hx hb dX3_divideOut_11 hl (by decide) rfl (fun ls hl => ?_)
  refine lv_iload_n hx hb dX3_divideOut_13 rfl (lv_at hl 3 rfl) ?_
  refine lv_istore (lv' := [(6, .int x2), (5, .int v8_569), (0, .ref (adr a0)), (1, .ref (adr a1)), (2, .int x2), (3, .ref (adr a3)), (4, .int x4)]) hx hb dX3_divideOut_14 hl (by decide) rfl (fun ls hl => ?_)
  refine sm_lp (b := fun rc q => m_X3_divideOut_b16 a0 a1 a3 x4 v8_569 rc q.1 q.2) (P := fun (q : Int32 × smM) H locs ls => smP D cA 1 adr q.2 H ∧ va_S (smA 1 adr) s.heap H locs ∧ lv_has ls 9 [(0, .ref (adr a0)), (1, .ref (adr a1)), (3, .ref (adr a3)), (4, .int x4), (5, .int v8_569), (6, .int q.1)]) (pc := 16) ?_ _ _ _ _ _ h ⟨hP, hS, lv_sub hl [2, 3, 5, 6, 1, 0] rfl⟩
  intro rc16_574 ih16_575 q H locs ls h hI
  obtain ⟨x6_16_572, M16_573⟩ := q
  obtain ⟨hP, hS, hl⟩ := hI
  have hP : smP D cA 1 adr M16_573 H := hP
  have hl : lv_has ls 9 [(0, .ref (adr a0)), (1, .ref (adr a1)), (3, .ref (adr a3)), (4, .int x4), (5, .int v8_569), (6, .int x6_16_572)] := hl
  have h : m_X3_divideOut_b16 a0 a1 a3 x4 v8_569 rc16_574 x6_16_572 M16_573 = some _ := h
  unfold m_X3_divideOut_b16 at h
  refine lv_iload hx hb dX3_divideOut_16 (lv_at hl 5 rfl) ?_
  refine lv_iload hx hb dX3_divideOut_18 (lv_at hl 3 rfl) ?_
  refine lv_icmp_lt (tgt := 96) hx hb dX3_divideOut_20 (by decide) (fun c20_576 => ?_) (fun c20_576 => ?_)
  · rw [if_pos c20_576] at h
    cases h
    exact sm_vret hx hb hr hlocks hP hS dX3_divideOut_96
  · rw [if_neg c20_576] at h
    refine lv_aload_n hx hb dX3_divideOut_23 rfl (lv_at hl 1 rfl) ?_
    refine lv_iload hx hb dX3_divideOut_24 (lv_at hl 5 rfl) ?_
    obtain ⟨c26_577, h⟩ := sm_ck h
    refine sm_iald hx hb hE hP ha1 c26_577 dX3_divideOut_26 ?_
    refine lv_iload hx hb dX3_divideOut_27 (lv_at hl 4 rfl) ?_
    refine lv_imul hx hb dX3_divideOut_29 ?_
    refine lv_aload_n hx hb dX3_divideOut_30 rfl (lv_at hl 0 rfl) ?_
    refine sm_get (ci := 3) (C := RX3) (T := TX3) (N := 7) (v := .int (M16_573 a0 3)) hx hb hts hin3 hown hE hP ha0 rfl rfl 3 (by decide) (hts (.fieldLink RX3 27 "OrderMover$Least" "p" "I") (by decide +kernel)) (fun _ h9 => h9) rfl dX3_divideOut_31 ?_
    obtain ⟨v34_578, hc34_580, h⟩ := sm_bd h
    refine sm_ci (va_runSN (As := [.int ((M16_573 a1 (x6_16_572).toNatClampNeg) * v8_569), .int (M16_573 a0 3)]) (rest := []) ⟨hx, hb, hml, hown, hts⟩ (k_X11_leftOver l D cA adr hJ ((M16_573 a1 (x6_16_572).toNatClampNeg) * v8_569) (M16_573 a0 3)  M16_573 v34_578 hc34_580) ⟨va_cnB (host := "OrderMover") 2 hts gX3_divideOut_X11_leftOver_n46 rfl rfl rfl (hE.2 (RX3, 46, yX11_leftOver, "OrderMover") (by decide +kernel)) (hts (.initialized RX11) (by decide +kernel)) (by decide +kernel) ⟨Nat.le_of_ble_eq_true rfl, Nat.le_of_ble_eq_true rfl⟩, hts (.static yX11_leftOver) (by decide +kernel), trivial⟩ ⟨smPc_bl, smPc_in [.int ((M16_573 a1 (x6_16_572).toNatClampNeg) * v8_569), .int (M16_573 a0 3)] hE hP⟩ rfl rfl hl.1 rfl (lv_room (Nat.le_of_ble_eq_true rfl)) dX3_divideOut_34 ⟨Nat.zero_le _, Nat.zero_le _⟩) hS (fun H locs hP hS => ?_)
    refine lv_istore (lv' := [(7, .int v34_578), (0, .ref (adr a0)), (1, .ref (adr a1)), (3, .ref (adr a3)), (4, .int x4), (5, .int v8_569), (6, .int x6_16_572)]) hx hb dX3_divideOut_37 hl (by decide) rfl (fun ls hl => ?_)
    refine lv_iconst (v := (0 : Int32)) hx hb dX3_divideOut_39 (by decide) ?_
    refine lv_istore (lv' := [(8, .int (0 : Int32)), (7, .int v34_578), (0, .ref (adr a0)), (1, .ref (adr a1)), (3, .ref (adr a3)), (4, .int x4), (5, .int v8_569), (6, .int x6_16_572)]) hx hb dX3_divideOut_40 hl (by decide) rfl (fun ls hl => ?_)
    refine sm_lp (b := fun rc q => m_X3_divideOut_b42 a0 a1 a3 x4 v8_569 x6_16_572 v34_578 rc16_574 rc q.1 q.2) (P := fun (q : Int32 × smM) H locs ls => smP D cA 1 adr q.2 H ∧ va_S (smA 1 adr) s.heap H locs ∧ lv_has ls 9 [(0, .ref (adr a0)), (1, .ref (adr a1)), (3, .ref (adr a3)), (4, .int x4), (5, .int v8_569), (6, .int x6_16_572), (7, .int v34_578), (8, .int q.1)]) (pc := 42) ?_ _ _ _ _ _ h ⟨hP, hS, lv_sub hl [2, 3, 4, 5, 6, 7, 1, 0] rfl⟩
    intro rc42_583 ih42_584 q H locs ls h hI
    obtain ⟨x8_42_581, M42_582⟩ := q
    obtain ⟨hP, hS, hl⟩ := hI
    have hP : smP D cA 1 adr M42_582 H := hP
    have hl : lv_has ls 9 [(0, .ref (adr a0)), (1, .ref (adr a1)), (3, .ref (adr a3)), (4, .int x4), (5, .int v8_569), (6, .int x6_16_572), (7, .int v34_578), (8, .int x8_42_581)] := hl
    have h : m_X3_divideOut_b42 a0 a1 a3 x4 v8_569 x6_16_572 v34_578 rc16_574 rc42_583 x8_42_581 M42_582 = some _ := h
    unfold m_X3_divideOut_b42 at h
    refine lv_iload hx hb dX3_divideOut_42 (lv_at hl 7 rfl) ?_
    refine lv_iload hx hb dX3_divideOut_44 (lv_at hl 3 rfl) ?_
    refine lv_icmp_gt (tgt := 90) hx hb dX3_divideOut_46 (by decide) (fun c46_585 => ?_) (fun c46_585 => ?_)
    · rw [if_pos c46_585] at h
      refine lv_iinc (v := (x6_16_572 + (-1 : Int32))) (lv' := [(6, .int (x6_16_572 + (-1 : Int32))), (0, .ref (adr a0)), (1, .ref (adr a1)), (3, .ref (adr a3)), (4, .int x4), (5, .int v8_569), (7, .int v34_578), (8, .int x8_42_581)]) hx hb dX3_divideOut_90 hl (k := 5) rfl (congrArg (fun z => x6_16_572 + z) (by decide)) (by decide) rfl (fun ls hl => ?_)
      refine lv_goto (tgt := 16) hx hb dX3_divideOut_93 (by decide) ?_
      exact ih16_575 ((x6_16_572 + (-1 : Int32)), M42_582) _ _ _ h ⟨hP, hS, lv_sub hl [1, 2, 3, 4, 5, 0] rfl⟩
    · rw [if_neg c46_585] at h
      refine lv_aload_n hx hb dX3_divideOut_49 rfl (lv_at hl 1 rfl) ?_
      refine lv_iload hx hb dX3_divideOut_50 (lv_at hl 5 rfl) ?_
      refine lv_iload hx hb dX3_divideOut_52 (lv_at hl 3 rfl) ?_
      refine lv_isub hx hb dX3_divideOut_54 ?_
      refine lv_iload hx hb dX3_divideOut_55 (lv_at hl 7 rfl) ?_
      refine lv_iadd hx hb dX3_divideOut_57 ?_
      refine lv_aload_n hx hb dX3_divideOut_58 rfl (lv_at hl 1 rfl) ?_
      refine lv_iload hx hb dX3_divideOut_59 (lv_at hl 5 rfl) ?_
      refine lv_iload hx hb dX3_divideOut_61 (lv_at hl 3 rfl) ?_
      refine lv_isub hx hb dX3_divideOut_63 ?_
      refine lv_iload hx hb dX3_divideOut_64 (lv_at hl 7 rfl) ?_
      refine lv_iadd hx hb dX3_divideOut_66 ?_
      obtain ⟨c67_586, h⟩ := sm_ck h
      refine sm_iald hx hb hE hP ha1 c67_586 dX3_divideOut_67 ?_
      refine lv_iload hx hb dX3_divideOut_68 (lv_at hl 6 rfl) ?_
      refine lv_aload_n hx hb dX3_divideOut_70 rfl (lv_at hl 2 rfl) ?_
      refine lv_iload hx hb dX3_divideOut_71 (lv_at hl 7 rfl) ?_
      obtain ⟨c73_587, h⟩ := sm_ck h
      refine sm_iald hx hb hE hP ha3 c73_587 dX3_divideOut_73 ?_
      refine lv_imul hx hb dX3_divideOut_74 ?_
      refine lv_isub hx hb dX3_divideOut_75 ?_
      refine lv_aload_n hx hb dX3_divideOut_76 rfl (lv_at hl 0 rfl) ?_
      refine sm_get (ci := 3) (C := RX3) (T := TX3) (N := 7) (v := .int (M42_582 a0 3)) hx hb hts hin3 hown hE hP ha0 rfl rfl 3 (by decide) (hts (.fieldLink RX3 27 "OrderMover$Least" "p" "I") (by decide +kernel)) (fun _ h9 => h9) rfl dX3_divideOut_77 ?_
      obtain ⟨v80_588, hc80_590, h⟩ := sm_bd h
      refine sm_ci (va_runSN (As := [.int ((M42_582 a1 (((x6_16_572 - x4) + x8_42_581)).toNatClampNeg) - (v34_578 * (M42_582 a3 (x8_42_581).toNatClampNeg))), .int (M42_582 a0 3)]) (rest := [.int ((x6_16_572 - x4) + x8_42_581), .ref (adr a1)]) ⟨hx, hb, hml, hown, hts⟩ (k_X11_leftOver l D cA adr hJ ((M42_582 a1 (((x6_16_572 - x4) + x8_42_581)).toNatClampNeg) - (v34_578 * (M42_582 a3 (x8_42_581).toNatClampNeg))) (M42_582 a0 3)  M42_582 v80_588 hc80_590) ⟨va_cnB (host := "OrderMover") 2 hts gX3_divideOut_X11_leftOver_n46 rfl rfl rfl (hE.2 (RX3, 46, yX11_leftOver, "OrderMover") (by decide +kernel)) (hts (.initialized RX11) (by decide +kernel)) (by decide +kernel) ⟨Nat.le_of_ble_eq_true rfl, Nat.le_of_ble_eq_true rfl⟩, hts (.static yX11_leftOver) (by decide +kernel), trivial⟩ ⟨smPc_bl, smPc_in [.int ((M42_582 a1 (((x6_16_572 - x4) + x8_42_581)).toNatClampNeg) - (v34_578 * (M42_582 a3 (x8_42_581).toNatClampNeg))), .int (M42_582 a0 3)] hE hP⟩ rfl rfl hl.1 rfl (lv_room (Nat.le_of_ble_eq_true rfl)) dX3_divideOut_80 ⟨Nat.zero_le _, Nat.zero_le _⟩) hS (fun H locs hP hS => ?_)
      obtain ⟨c83_591, h⟩ := sm_ck h
      refine sm_iast hx hb hE hJ hP hS ha1 c83_591 dX3_divideOut_83 (fun H locs hP hS => ?_)
      obtain ⟨M83_592, hM, h⟩ := sm_lt h
      rw [← hM] at hP; clear hM
      refine lv_iinc (v := (x8_42_581 + (1 : Int32))) (lv' := [(8, .int (x8_42_581 + (1 : Int32))), (0, .ref (adr a0)), (1, .ref (adr a1)), (3, .ref (adr a3)), (4, .int x4), (5, .int v8_569), (6, .int x6_16_572), (7, .int v34_578)]) hx hb dX3_divideOut_84 hl (k := 7) rfl (congrArg (fun z => x8_42_581 + z) (by decide)) (by decide) rfl (fun ls hl => ?_)
      refine lv_goto (tgt := 42) hx hb dX3_divideOut_87 (by decide) ?_
      exact ih42_584 ((x8_42_581 + (1 : Int32)), M83_592) _ _ _ h ⟨hP, hS, lv_sub hl [1, 2, 3, 4, 5, 6, 7, 0] rfl⟩
set_option maxHeartbeats 4000000 in
set_option maxRecDepth 100000 in
theorem k_X11_highestNotZero (l : Launch) (D : va_G) (cA : Nat → ClassId) (adr : Nat → Nat) (hJ : smJ 1 adr) (a0 : Nat) (x1 : Int32) (ha0 : smT 1 a0 20) (M : smM) (v1 : Int32) (h : m_X11_highestNotZero a0 x1 M = some v1) : Met l yX11_highestNotZero wsX11_highestNotZero ({ frames := 1, cells := 0, slots := 0, locals := 27 }) (smPc D cA 1 adr M [.ref (adr a0), .int x1]) (smQi D cA 1 adr M v1) 0 0 (smA 1 adr) := by
  refine Met.ofW (cc := cX11_highestNotZero) (maxL := 3) (ret := (some .int)) (by decide) rfl ?_
  intro p e s m args below meth c s₁ B hml hv
  obtain ⟨rfl, hE, hP⟩ := hv
  have hx := B.exec
  have hb := B.bytes
  have hr := B.returns
  have hts := atoms_spec (ws := wsX11_highestNotZero) B.pre
  have hown : s.vm.findClass RX11 = some m.cls := findClass_of_methodNamed B.named
  have hlocks := B.notSynchronized
  have hS : va_S (smA 1 adr) s.heap s.heap [] := va_S.rf
  have hP : smP D cA 1 adr M s.heap := hP
  have hl := lv_entry ([.ref (adr a0), .int x1]) (n := 3) (Nat.le_of_ble_eq_true rfl)
  rw [lg_entry_eq]
  generalize (lg_sl ([.ref (adr a0), .int x1]) ++ List.replicate (3 - (lg_sl ([.ref (adr a0), .int x1])).length) Slot.unset).toArray = ls at hl ⊢
  have hl : lv_has ls 3 [(0, .ref (adr a0)), (1, .int x1)] := hl
  unfold m_X11_highestNotZero at h
  refine lv_iload_n hx hb dX11_highestNotZero_0 rfl (lv_at hl 1 rfl) ?_
  refine lv_aload_n hx hb dX11_highestNotZero_1 rfl (lv_at hl 0 rfl) ?_
  refine sm_alen hx hb hE hP ha0 dX11_highestNotZero_2 ?_
  refine lv_iconst (v := (1 : Int32)) hx hb dX11_highestNotZero_3 (by decide) ?_
  refine lv_isub hx hb dX11_highestNotZero_4 ?_
  refine va_mmin hx hb (by rw [hml, hl.1]) hown (hts (.methodLink RX11 355 Lib.Math.min.name) (by decide +kernel)) (hts (.static Lib.Math.min.name) (by decide +kernel)) (hts (.initialized "java/lang/Math") (by decide +kernel)) (hts (.code Lib.Math.min.name Lib.Math.min.code 2 (some .int)) (by decide +kernel)) (Nat.le_of_ble_eq_true rfl) (Nat.le_of_ble_eq_true rfl) (Nat.zero_le _) (Nat.zero_le _) dX11_highestNotZero_5 ?_
  refine lv_istore_n (lv' := [(2, .int (if ((nI (smLn a0)) - (1 : Int32)) < x1 then ((nI (smLn a0)) - (1 : Int32)) else x1)), (0, .ref (adr a0)), (1, .int x1)]) hx hb dX11_highestNotZero_8 rfl hl (by decide) rfl (fun ls hl => ?_)
  refine sm_lp (b := fun rc q => m_X11_highestNotZero_b9 a0 M rc q) (P := fun (q : Int32) H locs ls => smP D cA 1 adr M H ∧ va_S (smA 1 adr) s.heap H locs ∧ lv_has ls 3 [(0, .ref (adr a0)), (2, .int q)]) (pc := 9) ?_ _ _ _ _ _ h ⟨hP, hS, lv_sub hl [1, 0] rfl⟩
  intro rc9_594 ih9_595 q H locs ls h hI
  obtain ⟨x2_9_593, hq⟩ : ∃ y, y = q := ⟨_, rfl⟩; subst hq
  obtain ⟨hP, hS, hl⟩ := hI
  have hP : smP D cA 1 adr M H := hP
  have hl : lv_has ls 3 [(0, .ref (adr a0)), (2, .int x2_9_593)] := hl
  have h : m_X11_highestNotZero_b9 a0 M rc9_594 x2_9_593 = some _ := h
  unfold m_X11_highestNotZero_b9 at h
  refine lv_iload_n hx hb dX11_highestNotZero_9 rfl (lv_at hl 1 rfl) ?_
  refine lv_if_lt (tgt := 27) hx hb dX11_highestNotZero_10 (by decide) (fun c10_596 => ?_) (fun c10_596 => ?_)
  · rw [if_pos c10_596] at h
    refine lv_iconst (v := (-1 : Int32)) hx hb dX11_highestNotZero_27 (by decide) ?_
    cases h
    exact sm_iret hx hb hr hlocks hP hS dX11_highestNotZero_28
  · rw [if_neg c10_596] at h
    refine lv_aload_n hx hb dX11_highestNotZero_13 rfl (lv_at hl 0 rfl) ?_
    refine lv_iload_n hx hb dX11_highestNotZero_14 rfl (lv_at hl 1 rfl) ?_
    obtain ⟨c15_597, h⟩ := sm_ck h
    refine sm_iald hx hb hE hP ha0 c15_597 dX11_highestNotZero_15 ?_
    refine lv_if_eq (tgt := 21) hx hb dX11_highestNotZero_16 (by decide) (fun c16_598 => ?_) (fun c16_598 => ?_)
    · rw [if_pos c16_598] at h
      refine lv_iinc (v := (x2_9_593 + (-1 : Int32))) (lv' := [(2, .int (x2_9_593 + (-1 : Int32))), (0, .ref (adr a0))]) hx hb dX11_highestNotZero_21 hl (k := 1) rfl (congrArg (fun z => x2_9_593 + z) (by decide)) (by decide) rfl (fun ls hl => ?_)
      refine lv_goto (tgt := 9) hx hb dX11_highestNotZero_24 (by decide) ?_
      exact ih9_595 (x2_9_593 + (-1 : Int32)) _ _ _ h ⟨hP, hS, lv_sub hl [1, 0] rfl⟩
    · rw [if_neg c16_598] at h
      refine lv_iload_n hx hb dX11_highestNotZero_19 rfl (lv_at hl 1 rfl) ?_
      cases h
      exact sm_iret hx hb hr hlocks hP hS dX11_highestNotZero_20
set_option maxHeartbeats 4000000 in
set_option maxRecDepth 100000 in
theorem k_X3_hasNoFactorTwice (l : Launch) (D : va_G) (cA : Nat → ClassId) (adr : Nat → Nat) (hJ : smJ 1 adr) (a0 : Nat) (ha0 : smT 1 a0 3) (M : smM) (v1 : Int32) (M1 : smM) (h : m_X3_hasNoFactorTwice a0 M = some (v1, M1)) : Met l yX3_hasNoFactorTwice wsX3_hasNoFactorTwice ({ frames := 2, cells := 0, slots := 0, locals := 50 }) (smPc D cA 1 adr M [.ref (adr a0)]) (smQi D cA 1 adr M1 v1) 0 0 (smA 1 adr) := by
  refine Met.ofW (cc := cX3_hasNoFactorTwice) (maxL := 7) (ret := (some .boolean)) (by decide) rfl ?_
  intro p e s m args below meth c s₁ B hml hv
  obtain ⟨rfl, hE, hP⟩ := hv
  have hx := B.exec
  have hb := B.bytes
  have hr := B.returns
  have hts := atoms_spec (ws := wsX3_hasNoFactorTwice) B.pre
  have hown : s.vm.findClass RX3 = some m.cls := findClass_of_methodNamed B.named
  have hlocks := B.notSynchronized
  have hS : va_S (smA 1 adr) s.heap s.heap [] := va_S.rf
  have hP : smP D cA 1 adr M s.heap := hP
  have hl := lv_entry ([.ref (adr a0)]) (n := 7) (Nat.le_of_ble_eq_true rfl)
  rw [lg_entry_eq]
  generalize (lg_sl ([.ref (adr a0)]) ++ List.replicate (7 - (lg_sl ([.ref (adr a0)])).length) Slot.unset).toArray = ls at hl ⊢
  have hl : lv_has ls 7 [(0, .ref (adr a0))] := hl
  unfold m_X3_hasNoFactorTwice at h
  have hin3 : ∀ w ∈ u_ws RX3 TX3 7, w ∈ wsX3_hasNoFactorTwice := by decide +kernel
  refine lv_iconst (v := (0 : Int32)) hx hb dX3_hasNoFactorTwice_0 (by decide) ?_
  refine lv_istore_n (lv' := [(1, .int (0 : Int32)), (0, .ref (adr a0))]) hx hb dX3_hasNoFactorTwice_1 rfl hl (by decide) rfl (fun ls hl => ?_)
  refine sm_lp (b := fun rc q => m_X3_hasNoFactorTwice_b2 a0 rc q.1 q.2) (P := fun (q : Int32 × smM) H locs ls => smP D cA 1 adr q.2 H ∧ va_S (smA 1 adr) s.heap H locs ∧ lv_has ls 7 [(0, .ref (adr a0)), (1, .int q.1)]) (pc := 2) ?_ _ _ _ _ _ h ⟨hP, hS, lv_sub hl [1, 0] rfl⟩
  intro rc2_601 ih2_602 q H locs ls h hI
  obtain ⟨x1_2_599, M2_600⟩ := q
  obtain ⟨hP, hS, hl⟩ := hI
  have hP : smP D cA 1 adr M2_600 H := hP
  have hl : lv_has ls 7 [(0, .ref (adr a0)), (1, .int x1_2_599)] := hl
  have h : m_X3_hasNoFactorTwice_b2 a0 rc2_601 x1_2_599 M2_600 = some _ := h
  unfold m_X3_hasNoFactorTwice_b2 at h
  refine lv_iload_n hx hb dX3_hasNoFactorTwice_2 rfl (lv_at hl 1 rfl) ?_
  refine lv_aload_n hx hb dX3_hasNoFactorTwice_3 rfl (lv_at hl 0 rfl) ?_
  refine sm_get (ci := 3) (C := RX3) (T := TX3) (N := 7) (v := .int (M2_600 a0 0)) hx hb hts hin3 hown hE hP ha0 rfl rfl 0 (by decide) (hts (.fieldLink RX3 37 "OrderMover$Least" "high" "I") (by decide +kernel)) (fun _ h9 => h9) rfl dX3_hasNoFactorTwice_4 ?_
  refine lv_icmp_gt (tgt := 55) hx hb dX3_hasNoFactorTwice_7 (by decide) (fun c7_603 => ?_) (fun c7_603 => ?_)
  · rw [if_pos c7_603] at h
    refine lv_aload_n hx hb dX3_hasNoFactorTwice_55 rfl (lv_at hl 0 rfl) ?_
    refine sm_get (ci := 3) (C := RX3) (T := TX3) (N := 7) (v := .ref (adr (a0 + 4))) hx hb hts hin3 hown hE hP ha0 rfl rfl 5 (by decide) (hts (.fieldLink RX3 21 "OrderMover$Least" "one" "[I") (by decide +kernel)) (fun _ h9 => h9) rfl dX3_hasNoFactorTwice_56 ?_
    refine lv_astore_n (lv' := [(1, .ref (adr (a0 + 4))), (0, .ref (adr a0))]) hx hb dX3_hasNoFactorTwice_59 rfl hl (by decide) rfl (fun ls hl => ?_)
    refine lv_aload_n hx hb dX3_hasNoFactorTwice_60 rfl (lv_at hl 1 rfl) ?_
    refine sm_get (ci := 3) (C := RX3) (T := TX3) (N := 7) (v := .ref (adr (a0 + 5))) hx hb hts hin3 hown hE hP ha0 rfl rfl 6 (by decide) (hts (.fieldLink RX3 24 "OrderMover$Least" "other" "[I") (by decide +kernel)) (fun _ h9 => h9) rfl dX3_hasNoFactorTwice_61 ?_
    refine lv_astore_n (lv' := [(2, .ref (adr (a0 + 5))), (1, .ref (adr (a0 + 4))), (0, .ref (adr a0))]) hx hb dX3_hasNoFactorTwice_64 rfl hl (by decide) rfl (fun ls hl => ?_)
    refine lv_aload_n hx hb dX3_hasNoFactorTwice_65 rfl (lv_at hl 2 rfl) ?_
    refine sm_get (ci := 3) (C := RX3) (T := TX3) (N := 7) (v := .int (M2_600 a0 0)) hx hb hts hin3 hown hE hP ha0 rfl rfl 0 (by decide) (hts (.fieldLink RX3 37 "OrderMover$Least" "high" "I") (by decide +kernel)) (fun _ h9 => h9) rfl dX3_hasNoFactorTwice_66 ?_
    refine lv_istore_n (lv' := [(3, .int (M2_600 a0 0)), (2, .ref (adr (a0 + 5))), (1, .ref (adr (a0 + 4))), (0, .ref (adr a0))]) hx hb dX3_hasNoFactorTwice_69 rfl hl (by decide) rfl (fun ls hl => ?_)
    refine lv_iconst (v := (0 : Int32)) hx hb dX3_hasNoFactorTwice_70 (by decide) ?_
    refine lv_istore (lv' := [(4, .int (0 : Int32)), (3, .int (M2_600 a0 0)), (2, .ref (adr (a0 + 5))), (1, .ref (adr (a0 + 4))), (0, .ref (adr a0))]) hx hb dX3_hasNoFactorTwice_71 hl (by decide) rfl (fun ls hl => ?_)
    refine sm_lp (b := fun rc q => m_X3_hasNoFactorTwice_b73 a0 rc2_601 rc q.1 q.2.1 q.2.2.1 q.2.2.2.1 q.2.2.2.2) (P := fun (q : Nat × Nat × Int32 × Int32 × smM) H locs ls => smP D cA 1 adr q.2.2.2.2 H ∧ va_S (smA 1 adr) s.heap H locs ∧ lv_has ls 7 [(0, .ref (adr a0)), (1, .ref (adr q.1)), (2, .ref (adr q.2.1)), (3, .int q.2.2.1), (4, .int q.2.2.2.1)] ∧ smT 1 q.1 20 ∧ smT 1 q.2.1 20) (pc := 73) ?_ _ _ _ _ _ h ⟨hP, hS, lv_sub hl [4, 3, 2, 1, 0] rfl, (t3_5 ha0), (t3_6 ha0)⟩
    intro rc73_609 ih73_610 q H locs ls h hI
    obtain ⟨a1_73_604, a2_73_605, x3_73_606, x4_73_607, M73_608⟩ := q
    obtain ⟨hP, hS, hl, hka1_73_604, hka2_73_605⟩ := hI
    have hP : smP D cA 1 adr M73_608 H := hP
    have hl : lv_has ls 7 [(0, .ref (adr a0)), (1, .ref (adr a1_73_604)), (2, .ref (adr a2_73_605)), (3, .int x3_73_606), (4, .int x4_73_607)] := hl
    have h : m_X3_hasNoFactorTwice_b73 a0 rc2_601 rc73_609 a1_73_604 a2_73_605 x3_73_606 x4_73_607 M73_608 = some _ := h
    unfold m_X3_hasNoFactorTwice_b73 at h
    refine lv_iload hx hb dX3_hasNoFactorTwice_73 (lv_at hl 4 rfl) ?_
    refine lv_bipush (v := (9 : Int32)) hx hb dX3_hasNoFactorTwice_75 (by decide) ?_
    refine lv_icmp_gt (tgt := 130) hx hb dX3_hasNoFactorTwice_77 (by decide) (fun c77_611 => ?_) (fun c77_611 => ?_)
    · rw [if_pos c77_611] at h
      refine lv_iload_n hx hb dX3_hasNoFactorTwice_130 rfl (lv_at hl 3 rfl) ?_
      refine lv_if_ne (tgt := 138) hx hb dX3_hasNoFactorTwice_131 (by decide) (fun c131_612 => ?_) (fun c131_612 => ?_)
      · rw [if_neg c131_612] at h
        refine lv_iconst (v := (0 : Int32)) hx hb dX3_hasNoFactorTwice_138 (by decide) ?_
        cases h
        exact sm_zret (by first | rfl | decide) hx hb hr hlocks hP hS dX3_hasNoFactorTwice_139
      · rw [if_pos c131_612] at h
        refine lv_iconst (v := (1 : Int32)) hx hb dX3_hasNoFactorTwice_134 (by decide) ?_
        refine lv_goto (tgt := 139) hx hb dX3_hasNoFactorTwice_135 (by decide) ?_
        cases h
        exact sm_zret (by first | rfl | decide) hx hb hr hlocks hP hS dX3_hasNoFactorTwice_139
    · rw [if_neg c77_611] at h
      refine lv_aload_n hx hb dX3_hasNoFactorTwice_80 rfl (lv_at hl 2 rfl) ?_
      refine lv_iload_n hx hb dX3_hasNoFactorTwice_81 rfl (lv_at hl 3 rfl) ?_
      refine lv_iconst (v := (1 : Int32)) hx hb dX3_hasNoFactorTwice_82 (by decide) ?_
      refine lv_isub hx hb dX3_hasNoFactorTwice_83 ?_
      obtain ⟨v84_613, hc84_615, h⟩ := sm_bd h
      refine sm_ci (va_runSN (As := [.ref (adr a2_73_605), .int (x3_73_606 - (1 : Int32))]) (rest := []) ⟨hx, hb, hml, hown, hts⟩ (k_X11_highestNotZero l D cA adr hJ a2_73_605 (x3_73_606 - (1 : Int32)) hka2_73_605 M73_608 v84_613 hc84_615) ⟨va_cnB (host := "OrderMover") 2 hts gX3_hasNoFactorTwice_X11_highestNotZero_n59 rfl rfl rfl (hE.2 (RX3, 59, yX11_highestNotZero, "OrderMover") (by decide +kernel)) (hts (.initialized RX11) (by decide +kernel)) (by decide +kernel) ⟨Nat.le_of_ble_eq_true rfl, Nat.le_of_ble_eq_true rfl⟩, hts (.static yX11_highestNotZero) (by decide +kernel), trivial⟩ ⟨smPc_bl, smPc_in [.ref (adr a2_73_605), .int (x3_73_606 - (1 : Int32))] hE hP⟩ rfl rfl hl.1 rfl (lv_room (Nat.le_of_ble_eq_true rfl)) dX3_hasNoFactorTwice_84 ⟨Nat.zero_le _, Nat.zero_le _⟩) hS (fun H locs hP hS => ?_)
      refine lv_istore (lv' := [(5, .int v84_613), (0, .ref (adr a0)), (1, .ref (adr a1_73_604)), (2, .ref (adr a2_73_605)), (3, .int x3_73_606), (4, .int x4_73_607)]) hx hb dX3_hasNoFactorTwice_87 hl (by decide) rfl (fun ls hl => ?_)
      refine lv_iload hx hb dX3_hasNoFactorTwice_89 (lv_at hl 0 rfl) ?_
      refine lv_if_ge (tgt := 104) hx hb dX3_hasNoFactorTwice_91 (by decide) (fun c91_616 => ?_) (fun c91_616 => ?_)
      · rw [if_pos c91_616] at h
        refine lv_aload_n hx hb dX3_hasNoFactorTwice_104 rfl (lv_at hl 1 rfl) ?_
        refine lv_aload_n hx hb dX3_hasNoFactorTwice_105 rfl (lv_at hl 2 rfl) ?_
        refine lv_iload_n hx hb dX3_hasNoFactorTwice_106 rfl (lv_at hl 4 rfl) ?_
        refine lv_aload_n hx hb dX3_hasNoFactorTwice_107 rfl (lv_at hl 3 rfl) ?_
        refine lv_iload hx hb dX3_hasNoFactorTwice_108 (lv_at hl 0 rfl) ?_
        obtain ⟨M110_618, hc110_619, h⟩ := sm_bd h
        refine sm_cv (va_runV (As := [.ref (adr a1_73_604), .int x3_73_606, .ref (adr a2_73_605), .int v84_613]) (rest := []) ⟨hx, hb, hml, hown, hts⟩ (k_X3_divideOut l D cA adr hJ a0 a1_73_604 x3_73_606 a2_73_605 v84_613 ha0 hka1_73_604 hka2_73_605 M73_608 M110_618 hc110_619) (cwV 4 hts gX3_hasNoFactorTwice_X3_divideOut rfl rfl rfl (by decide +kernel) ⟨Nat.le_of_ble_eq_true rfl, Nat.le_of_ble_eq_true rfl⟩) ⟨smPc_bl, smRv hE hP ha0 rfl (ci := 3) (q := (RX3, TX3, 7)) rfl, smPc_in [.ref (adr a0), .ref (adr a1_73_604), .int x3_73_606, .ref (adr a2_73_605), .int v84_613] hE hP⟩ rfl rfl hl.1 rfl (lv_room (Nat.le_of_ble_eq_true rfl)) dX3_hasNoFactorTwice_110 ⟨Nat.zero_le _, Nat.zero_le _⟩) hS (fun H locs hP hS => ?_)
        refine lv_aload_n hx hb dX3_hasNoFactorTwice_113 rfl (lv_at hl 2 rfl) ?_
        refine lv_astore (lv' := [(6, .ref (adr a1_73_604)), (5, .int v84_613), (0, .ref (adr a0)), (1, .ref (adr a1_73_604)), (2, .ref (adr a2_73_605)), (3, .int x3_73_606), (4, .int x4_73_607)]) hx hb dX3_hasNoFactorTwice_114 hl (by decide) rfl (fun ls hl => ?_)
        refine lv_aload_n hx hb dX3_hasNoFactorTwice_116 rfl (lv_at hl 4 rfl) ?_
        refine lv_astore_n (lv' := [(1, .ref (adr a2_73_605)), (6, .ref (adr a1_73_604)), (5, .int v84_613), (0, .ref (adr a0)), (2, .ref (adr a2_73_605)), (3, .int x3_73_606), (4, .int x4_73_607)]) hx hb dX3_hasNoFactorTwice_117 rfl hl (by decide) rfl (fun ls hl => ?_)
        refine lv_aload hx hb dX3_hasNoFactorTwice_118 (lv_at hl 1 rfl) ?_
        refine lv_astore_n (lv' := [(2, .ref (adr a1_73_604)), (1, .ref (adr a2_73_605)), (6, .ref (adr a1_73_604)), (5, .int v84_613), (0, .ref (adr a0)), (3, .int x3_73_606), (4, .int x4_73_607)]) hx hb dX3_hasNoFactorTwice_120 rfl hl (by decide) rfl (fun ls hl => ?_)
        refine lv_iload hx hb dX3_hasNoFactorTwice_121 (lv_at hl 3 rfl) ?_
        refine lv_istore_n (lv' := [(3, .int v84_613), (2, .ref (adr a1_73_604)), (1, .ref (adr a2_73_605)), (6, .ref (adr a1_73_604)), (5, .int v84_613), (0, .ref (adr a0)), (4, .int x4_73_607)]) hx hb dX3_hasNoFactorTwice_123 rfl hl (by decide) rfl (fun ls hl => ?_)
        refine lv_iinc (v := (x4_73_607 + (1 : Int32))) (lv' := [(4, .int (x4_73_607 + (1 : Int32))), (3, .int v84_613), (2, .ref (adr a1_73_604)), (1, .ref (adr a2_73_605)), (6, .ref (adr a1_73_604)), (5, .int v84_613), (0, .ref (adr a0))]) hx hb dX3_hasNoFactorTwice_124 hl (k := 6) rfl (congrArg (fun z => x4_73_607 + z) (by decide)) (by decide) rfl (fun ls hl => ?_)
        refine lv_goto (tgt := 73) hx hb dX3_hasNoFactorTwice_127 (by decide) ?_
        exact ih73_610 (a2_73_605, a1_73_604, v84_613, (x4_73_607 + (1 : Int32)), M110_618) _ _ _ h ⟨hP, hS, lv_sub hl [6, 3, 2, 1, 0] rfl, hka2_73_605, hka1_73_604⟩
      · rw [if_neg c91_616] at h
        refine lv_iload_n hx hb dX3_hasNoFactorTwice_94 rfl (lv_at hl 4 rfl) ?_
        refine lv_if_ne (tgt := 102) hx hb dX3_hasNoFactorTwice_95 (by decide) (fun c95_620 => ?_) (fun c95_620 => ?_)
        · rw [if_neg c95_620] at h
          refine lv_iconst (v := (0 : Int32)) hx hb dX3_hasNoFactorTwice_102 (by decide) ?_
          cases h
          exact sm_zret (by first | rfl | decide) hx hb hr hlocks hP hS dX3_hasNoFactorTwice_103
        · rw [if_pos c95_620] at h
          refine lv_iconst (v := (1 : Int32)) hx hb dX3_hasNoFactorTwice_98 (by decide) ?_
          refine lv_goto (tgt := 103) hx hb dX3_hasNoFactorTwice_99 (by decide) ?_
          cases h
          exact sm_zret (by first | rfl | decide) hx hb hr hlocks hP hS dX3_hasNoFactorTwice_103
  · rw [if_neg c7_603] at h
    refine lv_aload_n hx hb dX3_hasNoFactorTwice_10 rfl (lv_at hl 0 rfl) ?_
    refine sm_get (ci := 3) (C := RX3) (T := TX3) (N := 7) (v := .ref (adr (a0 + 4))) hx hb hts hin3 hown hE hP ha0 rfl rfl 5 (by decide) (hts (.fieldLink RX3 21 "OrderMover$Least" "one" "[I") (by decide +kernel)) (fun _ h9 => h9) rfl dX3_hasNoFactorTwice_11 ?_
    refine lv_iload_n hx hb dX3_hasNoFactorTwice_14 rfl (lv_at hl 1 rfl) ?_
    refine lv_aload_n hx hb dX3_hasNoFactorTwice_15 rfl (lv_at hl 0 rfl) ?_
    refine sm_get (ci := 3) (C := RX3) (T := TX3) (N := 7) (v := .ref (adr (a0 + 1))) hx hb hts hin3 hown hE hP ha0 rfl rfl 1 (by decide) (hts (.fieldLink RX3 9 "OrderMover$Least" "numbers" "[I") (by decide +kernel)) (fun _ h9 => h9) rfl dX3_hasNoFactorTwice_16 ?_
    refine lv_iload_n hx hb dX3_hasNoFactorTwice_19 rfl (lv_at hl 1 rfl) ?_
    obtain ⟨c20_621, h⟩ := sm_ck h
    refine sm_iald hx hb hE hP (t3_1 ha0) c20_621 dX3_hasNoFactorTwice_20 ?_
    obtain ⟨c21_622, h⟩ := sm_ck h
    refine sm_iast hx hb hE hJ hP hS (t3_5 ha0) c21_622 dX3_hasNoFactorTwice_21 (fun H locs hP hS => ?_)
    obtain ⟨M21_623, hM, h⟩ := sm_lt h
    rw [← hM] at hP; clear hM
    refine lv_iload_n hx hb dX3_hasNoFactorTwice_22 rfl (lv_at hl 1 rfl) ?_
    refine lv_if_le (tgt := 49) hx hb dX3_hasNoFactorTwice_23 (by decide) (fun c23_624 => ?_) (fun c23_624 => ?_)
    · rw [if_pos c23_624] at h
      refine lv_iinc (v := (x1_2_599 + (1 : Int32))) (lv' := [(1, .int (x1_2_599 + (1 : Int32))), (0, .ref (adr a0))]) hx hb dX3_hasNoFactorTwice_49 hl (k := 1) rfl (congrArg (fun z => x1_2_599 + z) (by decide)) (by decide) rfl (fun ls hl => ?_)
      refine lv_goto (tgt := 2) hx hb dX3_hasNoFactorTwice_52 (by decide) ?_
      exact ih2_602 ((x1_2_599 + (1 : Int32)), M21_623) _ _ _ h ⟨hP, hS, lv_sub hl [1, 0] rfl⟩
    · rw [if_neg c23_624] at h
      refine lv_aload_n hx hb dX3_hasNoFactorTwice_26 rfl (lv_at hl 0 rfl) ?_
      refine sm_get (ci := 3) (C := RX3) (T := TX3) (N := 7) (v := .ref (adr (a0 + 5))) hx hb hts hin3 hown hE hP ha0 rfl rfl 6 (by decide) (hts (.fieldLink RX3 24 "OrderMover$Least" "other" "[I") (by decide +kernel)) (fun _ h9 => h9) rfl dX3_hasNoFactorTwice_27 ?_
      refine lv_iload_n hx hb dX3_hasNoFactorTwice_30 rfl (lv_at hl 1 rfl) ?_
      refine lv_iconst (v := (1 : Int32)) hx hb dX3_hasNoFactorTwice_31 (by decide) ?_
      refine lv_isub hx hb dX3_hasNoFactorTwice_32 ?_
      refine lv_iload_n hx hb dX3_hasNoFactorTwice_33 rfl (lv_at hl 1 rfl) ?_
      refine lv_aload_n hx hb dX3_hasNoFactorTwice_34 rfl (lv_at hl 0 rfl) ?_
      refine sm_get (ci := 3) (C := RX3) (T := TX3) (N := 7) (v := .ref (adr (a0 + 1))) hx hb hts hin3 hown hE hP ha0 rfl rfl 1 (by decide) (hts (.fieldLink RX3 9 "OrderMover$Least" "numbers" "[I") (by decide +kernel)) (fun _ h9 => h9) rfl dX3_hasNoFactorTwice_35 ?_
      refine lv_iload_n hx hb dX3_hasNoFactorTwice_38 rfl (lv_at hl 1 rfl) ?_
      obtain ⟨c39_625, h⟩ := sm_ck h
      refine sm_iald hx hb hE hP (t3_1 ha0) c39_625 dX3_hasNoFactorTwice_39 ?_
      refine lv_imul hx hb dX3_hasNoFactorTwice_40 ?_
      refine lv_aload_n hx hb dX3_hasNoFactorTwice_41 rfl (lv_at hl 0 rfl) ?_
      refine sm_get (ci := 3) (C := RX3) (T := TX3) (N := 7) (v := .int (M21_623 a0 3)) hx hb hts hin3 hown hE hP ha0 rfl rfl 3 (by decide) (hts (.fieldLink RX3 27 "OrderMover$Least" "p" "I") (by decide +kernel)) (fun _ h9 => h9) rfl dX3_hasNoFactorTwice_42 ?_
      obtain ⟨v45_626, hc45_628, h⟩ := sm_bd h
      refine sm_ci (va_runSN (As := [.int (x1_2_599 * (M21_623 (a0 + 1) (x1_2_599).toNatClampNeg)), .int (M21_623 a0 3)]) (rest := [.int (x1_2_599 - (1 : Int32)), .ref (adr (a0 + 5))]) ⟨hx, hb, hml, hown, hts⟩ (k_X11_leftOver l D cA adr hJ (x1_2_599 * (M21_623 (a0 + 1) (x1_2_599).toNatClampNeg)) (M21_623 a0 3)  M21_623 v45_626 hc45_628) ⟨va_cnB (host := "OrderMover") 2 hts gX3_hasNoFactorTwice_X11_leftOver_n46 rfl rfl rfl (hE.2 (RX3, 46, yX11_leftOver, "OrderMover") (by decide +kernel)) (hts (.initialized RX11) (by decide +kernel)) (by decide +kernel) ⟨Nat.le_of_ble_eq_true rfl, Nat.le_of_ble_eq_true rfl⟩, hts (.static yX11_leftOver) (by decide +kernel), trivial⟩ ⟨smPc_bl, smPc_in [.int (x1_2_599 * (M21_623 (a0 + 1) (x1_2_599).toNatClampNeg)), .int (M21_623 a0 3)] hE hP⟩ rfl rfl hl.1 rfl (lv_room (Nat.le_of_ble_eq_true rfl)) dX3_hasNoFactorTwice_45 ⟨Nat.zero_le _, Nat.zero_le _⟩) hS (fun H locs hP hS => ?_)
      obtain ⟨c48_629, h⟩ := sm_ck h
      refine sm_iast hx hb hE hJ hP hS (t3_6 ha0) c48_629 dX3_hasNoFactorTwice_48 (fun H locs hP hS => ?_)
      obtain ⟨M48_630, hM, h⟩ := sm_lt h
      rw [← hM] at hP; clear hM
      refine lv_iinc (v := (x1_2_599 + (1 : Int32))) (lv' := [(1, .int (x1_2_599 + (1 : Int32))), (0, .ref (adr a0))]) hx hb dX3_hasNoFactorTwice_49 hl (k := 1) rfl (congrArg (fun z => x1_2_599 + z) (by decide)) (by decide) rfl (fun ls hl => ?_)
      refine lv_goto (tgt := 2) hx hb dX3_hasNoFactorTwice_52 (by decide) ?_
      exact ih2_602 ((x1_2_599 + (1 : Int32)), M48_630) _ _ _ h ⟨hP, hS, lv_sub hl [1, 0] rfl⟩
set_option maxHeartbeats 4000000 in
set_option maxRecDepth 100000 in
theorem k_X2_isRadical (l : Launch) (D : va_G) (cA : Nat → ClassId) (adr : Nat → Nat) (hJ : smJ 1 adr) (a0 : Nat) (ha0 : smT 1 a0 2) (M : smM) (v1 : Int32) (M1 : smM) (h : m_X2_isRadical a0 M = some (v1, M1)) : Met l yX2_isRadical wsX2_isRadical ({ frames := 3, cells := 0, slots := 0, locals := 76 }) (smPc D cA 1 adr M [.ref (adr a0)]) (smQi D cA 1 adr M1 v1) 0 0 (smA 1 adr) := by
  refine Met.ofW (cc := cX2_isRadical) (maxL := 1) (ret := (some .boolean)) (by decide) rfl ?_
  intro p e s m args below meth c s₁ B hml hv
  obtain ⟨rfl, hE, hP⟩ := hv
  have hx := B.exec
  have hb := B.bytes
  have hr := B.returns
  have hts := atoms_spec (ws := wsX2_isRadical) B.pre
  have hown : s.vm.findClass RX2 = some m.cls := findClass_of_methodNamed B.named
  have hlocks := B.notSynchronized
  have hS : va_S (smA 1 adr) s.heap s.heap [] := va_S.rf
  have hP : smP D cA 1 adr M s.heap := hP
  have hl := lv_entry ([.ref (adr a0)]) (n := 1) (Nat.le_of_ble_eq_true rfl)
  rw [lg_entry_eq]
  generalize (lg_sl ([.ref (adr a0)]) ++ List.replicate (1 - (lg_sl ([.ref (adr a0)])).length) Slot.unset).toArray = ls at hl ⊢
  have hl : lv_has ls 1 [(0, .ref (adr a0))] := hl
  unfold m_X2_isRadical at h
  have hin2 : ∀ w ∈ u_ws RX2 TX2 9, w ∈ wsX2_isRadical := by decide +kernel
  refine lv_aload_n hx hb dX2_isRadical_0 rfl (lv_at hl 0 rfl) ?_
  refine sm_get (ci := 2) (C := RX2) (T := TX2) (N := 9) (v := .ref (adr (a0 + 40))) hx hb hts hin2 hown hE hP ha0 rfl rfl 1 (by decide) (hts (.fieldLink RX2 20 "OrderMover$Ideal" "leasts" "[LOrderMover$Least;") (by decide +kernel)) (fun _ h9 => h9) rfl dX2_isRadical_1 ?_
  refine lv_iconst (v := (0 : Int32)) hx hb dX2_isRadical_4 (by decide) ?_
  obtain ⟨c5_631, h⟩ := sm_ck h
  refine sm_aald25 hx hb hE hP (t2_1 ha0) c5_631 dX2_isRadical_5 ?_
  obtain ⟨v6_632, M6_633, hc6_634, h⟩ := sm_bd2 h
  refine sm_ci (va_runV (As := []) (rest := []) ⟨hx, hb, hml, hown, hts⟩ (k_X3_hasNoFactorTwice l D cA adr hJ ((a0 + 40) + 1 + 6 * ((0 : Int32)).toNatClampNeg) (te25 (t2_1 ha0) c5_631) M v6_632 M6_633 hc6_634) (cwV 0 hts gX2_isRadical_X3_hasNoFactorTwice rfl rfl rfl (by decide +kernel) ⟨Nat.le_of_ble_eq_true rfl, Nat.le_of_ble_eq_true rfl⟩) ⟨smPc_bl, smRv hE hP (te25 (t2_1 ha0) c5_631) rfl (ci := 3) (q := (RX3, TX3, 7)) rfl, smPc_in [.ref (adr ((a0 + 40) + 1 + 6 * ((0 : Int32)).toNatClampNeg))] hE hP⟩ rfl rfl hl.1 rfl (lv_room (Nat.le_of_ble_eq_true rfl)) dX2_isRadical_6 ⟨Nat.zero_le _, Nat.zero_le _⟩) hS (fun H locs hP hS => ?_)
  refine lv_if_eq (tgt := 28) hx hb dX2_isRadical_9 (by decide) (fun c9_635 => ?_) (fun c9_635 => ?_)
  · rw [if_pos c9_635] at h
    refine lv_iconst (v := (0 : Int32)) hx hb dX2_isRadical_28 (by decide) ?_
    cases h
    exact sm_zret (by first | rfl | decide) hx hb hr hlocks hP hS dX2_isRadical_29
  · rw [if_neg c9_635] at h
    refine lv_aload_n hx hb dX2_isRadical_12 rfl (lv_at hl 0 rfl) ?_
    refine sm_get (ci := 2) (C := RX2) (T := TX2) (N := 9) (v := .ref (adr (a0 + 40))) hx hb hts hin2 hown hE hP ha0 rfl rfl 1 (by decide) (hts (.fieldLink RX2 20 "OrderMover$Ideal" "leasts" "[LOrderMover$Least;") (by decide +kernel)) (fun _ h9 => h9) rfl dX2_isRadical_13 ?_
    refine lv_iconst (v := (1 : Int32)) hx hb dX2_isRadical_16 (by decide) ?_
    obtain ⟨c17_636, h⟩ := sm_ck h
    refine sm_aald25 hx hb hE hP (t2_1 ha0) c17_636 dX2_isRadical_17 ?_
    obtain ⟨v18_637, M18_638, hc18_639, h⟩ := sm_bd2 h
    refine sm_ci (va_runV (As := []) (rest := []) ⟨hx, hb, hml, hown, hts⟩ (k_X3_hasNoFactorTwice l D cA adr hJ ((a0 + 40) + 1 + 6 * ((1 : Int32)).toNatClampNeg) (te25 (t2_1 ha0) c17_636) M6_633 v18_637 M18_638 hc18_639) (cwV 0 hts gX2_isRadical_X3_hasNoFactorTwice rfl rfl rfl (by decide +kernel) ⟨Nat.le_of_ble_eq_true rfl, Nat.le_of_ble_eq_true rfl⟩) ⟨smPc_bl, smRv hE hP (te25 (t2_1 ha0) c17_636) rfl (ci := 3) (q := (RX3, TX3, 7)) rfl, smPc_in [.ref (adr ((a0 + 40) + 1 + 6 * ((1 : Int32)).toNatClampNeg))] hE hP⟩ rfl rfl hl.1 rfl (lv_room (Nat.le_of_ble_eq_true rfl)) dX2_isRadical_18 ⟨Nat.zero_le _, Nat.zero_le _⟩) hS (fun H locs hP hS => ?_)
    refine lv_if_eq (tgt := 28) hx hb dX2_isRadical_21 (by decide) (fun c21_640 => ?_) (fun c21_640 => ?_)
    · rw [if_pos c21_640] at h
      refine lv_iconst (v := (0 : Int32)) hx hb dX2_isRadical_28 (by decide) ?_
      cases h
      exact sm_zret (by first | rfl | decide) hx hb hr hlocks hP hS dX2_isRadical_29
    · rw [if_neg c21_640] at h
      refine lv_iconst (v := (1 : Int32)) hx hb dX2_isRadical_24 (by decide) ?_
      refine lv_goto (tgt := 29) hx hb dX2_isRadical_25 (by decide) ?_
      cases h
      exact sm_zret (by first | rfl | decide) hx hb hr hlocks hP hS dX2_isRadical_29
set_option maxHeartbeats 4000000 in
set_option maxRecDepth 100000 in
theorem k_X3_shiftRaised (l : Launch) (D : va_G) (cA : Nat → ClassId) (adr : Nat → Nat) (hJ : smJ 1 adr) (a0 : Nat) (ha0 : smT 1 a0 3) (M : smM) (M1 : smM) (h : m_X3_shiftRaised a0 M = some M1) : Met l yX3_shiftRaised wsX3_shiftRaised ({ frames := 1, cells := 0, slots := 0, locals := 22 }) (smPc D cA 1 adr M [.ref (adr a0)]) (smQv D cA 1 adr M1) 0 0 (smA 1 adr) := by
  refine Met.ofW (cc := cX3_shiftRaised) (maxL := 3) (ret := none) (by decide) rfl ?_
  intro p e s m args below meth c s₁ B hml hv
  obtain ⟨rfl, hE, hP⟩ := hv
  have hx := B.exec
  have hb := B.bytes
  have hr := B.returns
  have hts := atoms_spec (ws := wsX3_shiftRaised) B.pre
  have hown : s.vm.findClass RX3 = some m.cls := findClass_of_methodNamed B.named
  have hlocks := B.notSynchronized
  have hS : va_S (smA 1 adr) s.heap s.heap [] := va_S.rf
  have hP : smP D cA 1 adr M s.heap := hP
  have hl := lv_entry ([.ref (adr a0)]) (n := 3) (Nat.le_of_ble_eq_true rfl)
  rw [lg_entry_eq]
  generalize (lg_sl ([.ref (adr a0)]) ++ List.replicate (3 - (lg_sl ([.ref (adr a0)])).length) Slot.unset).toArray = ls at hl ⊢
  have hl : lv_has ls 3 [(0, .ref (adr a0))] := hl
  unfold m_X3_shiftRaised at h
  have hin3 : ∀ w ∈ u_ws RX3 TX3 7, w ∈ wsX3_shiftRaised := by decide +kernel
  refine lv_aload_n hx hb dX3_shiftRaised_0 rfl (lv_at hl 0 rfl) ?_
  refine sm_get (ci := 3) (C := RX3) (T := TX3) (N := 7) (v := .int (M a0 0)) hx hb hts hin3 hown hE hP ha0 rfl rfl 0 (by decide) (hts (.fieldLink RX3 37 "OrderMover$Least" "high" "I") (by decide +kernel)) (fun _ h9 => h9) rfl dX3_shiftRaised_1 ?_
  refine lv_iconst (v := (1 : Int32)) hx hb dX3_shiftRaised_4 (by decide) ?_
  refine lv_icmp_ge (tgt := 9) hx hb dX3_shiftRaised_5 (by decide) (fun c5_641 => ?_) (fun c5_641 => ?_)
  · rw [if_pos c5_641] at h
    refine lv_aload_n hx hb dX3_shiftRaised_9 rfl (lv_at hl 0 rfl) ?_
    refine sm_get (ci := 3) (C := RX3) (T := TX3) (N := 7) (v := .ref (adr (a0 + 2))) hx hb hts hin3 hown hE hP ha0 rfl rfl 2 (by decide) (hts (.fieldLink RX3 15 "OrderMover$Least" "raised" "[I") (by decide +kernel)) (fun _ h9 => h9) rfl dX3_shiftRaised_10 ?_
    refine lv_aload_n hx hb dX3_shiftRaised_13 rfl (lv_at hl 0 rfl) ?_
    refine sm_get (ci := 3) (C := RX3) (T := TX3) (N := 7) (v := .int (M a0 0)) hx hb hts hin3 hown hE hP ha0 rfl rfl 0 (by decide) (hts (.fieldLink RX3 37 "OrderMover$Least" "high" "I") (by decide +kernel)) (fun _ h9 => h9) rfl dX3_shiftRaised_14 ?_
    refine lv_iconst (v := (1 : Int32)) hx hb dX3_shiftRaised_17 (by decide) ?_
    refine lv_isub hx hb dX3_shiftRaised_18 ?_
    obtain ⟨c19_642, h⟩ := sm_ck h
    refine sm_iald hx hb hE hP (t3_2 ha0) c19_642 dX3_shiftRaised_19 ?_
    refine lv_istore_n (lv' := [(1, .int (M (a0 + 2) (((M a0 0) - (1 : Int32))).toNatClampNeg)), (0, .ref (adr a0))]) hx hb dX3_shiftRaised_20 rfl hl (by decide) rfl (fun ls hl => ?_)
    refine lv_aload_n hx hb dX3_shiftRaised_21 rfl (lv_at hl 1 rfl) ?_
    refine sm_get (ci := 3) (C := RX3) (T := TX3) (N := 7) (v := .int (M a0 0)) hx hb hts hin3 hown hE hP ha0 rfl rfl 0 (by decide) (hts (.fieldLink RX3 37 "OrderMover$Least" "high" "I") (by decide +kernel)) (fun _ h9 => h9) rfl dX3_shiftRaised_22 ?_
    refine lv_iconst (v := (1 : Int32)) hx hb dX3_shiftRaised_25 (by decide) ?_
    refine lv_isub hx hb dX3_shiftRaised_26 ?_
    refine lv_istore_n (lv' := [(2, .int ((M a0 0) - (1 : Int32))), (1, .int (M (a0 + 2) (((M a0 0) - (1 : Int32))).toNatClampNeg)), (0, .ref (adr a0))]) hx hb dX3_shiftRaised_27 rfl hl (by decide) rfl (fun ls hl => ?_)
    refine sm_lp (b := fun rc q => m_X3_shiftRaised_b28 a0 (M (a0 + 2) (((M a0 0) - (1 : Int32))).toNatClampNeg) rc q.1 q.2) (P := fun (q : Int32 × smM) H locs ls => smP D cA 1 adr q.2 H ∧ va_S (smA 1 adr) s.heap H locs ∧ lv_has ls 3 [(0, .ref (adr a0)), (1, .int (M (a0 + 2) (((M a0 0) - (1 : Int32))).toNatClampNeg)), (2, .int q.1)]) (pc := 28) ?_ _ _ _ _ _ h ⟨hP, hS, lv_sub hl [2, 1, 0] rfl⟩
    intro rc28_645 ih28_646 q H locs ls h hI
    obtain ⟨x2_28_643, M28_644⟩ := q
    obtain ⟨hP, hS, hl⟩ := hI
    have hP : smP D cA 1 adr M28_644 H := hP
    have hl : lv_has ls 3 [(0, .ref (adr a0)), (1, .int (M (a0 + 2) (((M a0 0) - (1 : Int32))).toNatClampNeg)), (2, .int x2_28_643)] := hl
    have h : m_X3_shiftRaised_b28 a0 (M (a0 + 2) (((M a0 0) - (1 : Int32))).toNatClampNeg) rc28_645 x2_28_643 M28_644 = some _ := h
    unfold m_X3_shiftRaised_b28 at h
    refine lv_iload_n hx hb dX3_shiftRaised_28 rfl (lv_at hl 2 rfl) ?_
    refine lv_if_le (tgt := 68) hx hb dX3_shiftRaised_29 (by decide) (fun c29_647 => ?_) (fun c29_647 => ?_)
    · rw [if_pos c29_647] at h
      refine lv_aload_n hx hb dX3_shiftRaised_68 rfl (lv_at hl 0 rfl) ?_
      refine sm_get (ci := 3) (C := RX3) (T := TX3) (N := 7) (v := .ref (adr (a0 + 2))) hx hb hts hin3 hown hE hP ha0 rfl rfl 2 (by decide) (hts (.fieldLink RX3 15 "OrderMover$Least" "raised" "[I") (by decide +kernel)) (fun _ h9 => h9) rfl dX3_shiftRaised_69 ?_
      refine lv_iconst (v := (0 : Int32)) hx hb dX3_shiftRaised_72 (by decide) ?_
      refine lv_iload_n hx hb dX3_shiftRaised_73 rfl (lv_at hl 1 rfl) ?_
      refine lv_ineg hx hb dX3_shiftRaised_74 ?_
      refine lv_aload_n hx hb dX3_shiftRaised_75 rfl (lv_at hl 0 rfl) ?_
      refine sm_get (ci := 3) (C := RX3) (T := TX3) (N := 7) (v := .ref (adr (a0 + 1))) hx hb hts hin3 hown hE hP ha0 rfl rfl 1 (by decide) (hts (.fieldLink RX3 9 "OrderMover$Least" "numbers" "[I") (by decide +kernel)) (fun _ h9 => h9) rfl dX3_shiftRaised_76 ?_
      refine lv_iconst (v := (0 : Int32)) hx hb dX3_shiftRaised_79 (by decide) ?_
      obtain ⟨c80_648, h⟩ := sm_ck h
      refine sm_iald hx hb hE hP (t3_1 ha0) c80_648 dX3_shiftRaised_80 ?_
      refine lv_imul hx hb dX3_shiftRaised_81 ?_
      refine lv_aload_n hx hb dX3_shiftRaised_82 rfl (lv_at hl 0 rfl) ?_
      refine sm_get (ci := 3) (C := RX3) (T := TX3) (N := 7) (v := .int (M28_644 a0 3)) hx hb hts hin3 hown hE hP ha0 rfl rfl 3 (by decide) (hts (.fieldLink RX3 27 "OrderMover$Least" "p" "I") (by decide +kernel)) (fun _ h9 => h9) rfl dX3_shiftRaised_83 ?_
      obtain ⟨v86_649, hc86_651, h⟩ := sm_bd h
      refine sm_ci (va_runSN (As := [.int ((-(M (a0 + 2) (((M a0 0) - (1 : Int32))).toNatClampNeg)) * (M28_644 (a0 + 1) ((0 : Int32)).toNatClampNeg)), .int (M28_644 a0 3)]) (rest := [.int (0 : Int32), .ref (adr (a0 + 2))]) ⟨hx, hb, hml, hown, hts⟩ (k_X11_leftOver l D cA adr hJ ((-(M (a0 + 2) (((M a0 0) - (1 : Int32))).toNatClampNeg)) * (M28_644 (a0 + 1) ((0 : Int32)).toNatClampNeg)) (M28_644 a0 3)  M28_644 v86_649 hc86_651) ⟨va_cnB (host := "OrderMover") 2 hts gX3_shiftRaised_X11_leftOver_n46 rfl rfl rfl (hE.2 (RX3, 46, yX11_leftOver, "OrderMover") (by decide +kernel)) (hts (.initialized RX11) (by decide +kernel)) (by decide +kernel) ⟨Nat.le_of_ble_eq_true rfl, Nat.le_of_ble_eq_true rfl⟩, hts (.static yX11_leftOver) (by decide +kernel), trivial⟩ ⟨smPc_bl, smPc_in [.int ((-(M (a0 + 2) (((M a0 0) - (1 : Int32))).toNatClampNeg)) * (M28_644 (a0 + 1) ((0 : Int32)).toNatClampNeg)), .int (M28_644 a0 3)] hE hP⟩ rfl rfl hl.1 rfl (lv_room (Nat.le_of_ble_eq_true rfl)) dX3_shiftRaised_86 ⟨Nat.zero_le _, Nat.zero_le _⟩) hS (fun H locs hP hS => ?_)
      obtain ⟨c89_652, h⟩ := sm_ck h
      refine sm_iast hx hb hE hJ hP hS (t3_2 ha0) c89_652 dX3_shiftRaised_89 (fun H locs hP hS => ?_)
      obtain ⟨M89_653, hM, h⟩ := sm_lt h
      rw [← hM] at hP; clear hM
      cases h
      exact sm_vret hx hb hr hlocks hP hS dX3_shiftRaised_90
    · rw [if_neg c29_647] at h
      refine lv_aload_n hx hb dX3_shiftRaised_32 rfl (lv_at hl 0 rfl) ?_
      refine sm_get (ci := 3) (C := RX3) (T := TX3) (N := 7) (v := .ref (adr (a0 + 2))) hx hb hts hin3 hown hE hP ha0 rfl rfl 2 (by decide) (hts (.fieldLink RX3 15 "OrderMover$Least" "raised" "[I") (by decide +kernel)) (fun _ h9 => h9) rfl dX3_shiftRaised_33 ?_
      refine lv_iload_n hx hb dX3_shiftRaised_36 rfl (lv_at hl 2 rfl) ?_
      refine lv_aload_n hx hb dX3_shiftRaised_37 rfl (lv_at hl 0 rfl) ?_
      refine sm_get (ci := 3) (C := RX3) (T := TX3) (N := 7) (v := .ref (adr (a0 + 2))) hx hb hts hin3 hown hE hP ha0 rfl rfl 2 (by decide) (hts (.fieldLink RX3 15 "OrderMover$Least" "raised" "[I") (by decide +kernel)) (fun _ h9 => h9) rfl dX3_shiftRaised_38 ?_
      refine lv_iload_n hx hb dX3_shiftRaised_41 rfl (lv_at hl 2 rfl) ?_
      refine lv_iconst (v := (1 : Int32)) hx hb dX3_shiftRaised_42 (by decide) ?_
      refine lv_isub hx hb dX3_shiftRaised_43 ?_
      obtain ⟨c44_654, h⟩ := sm_ck h
      refine sm_iald hx hb hE hP (t3_2 ha0) c44_654 dX3_shiftRaised_44 ?_
      refine lv_iload_n hx hb dX3_shiftRaised_45 rfl (lv_at hl 1 rfl) ?_
      refine lv_aload_n hx hb dX3_shiftRaised_46 rfl (lv_at hl 0 rfl) ?_
      refine sm_get (ci := 3) (C := RX3) (T := TX3) (N := 7) (v := .ref (adr (a0 + 1))) hx hb hts hin3 hown hE hP ha0 rfl rfl 1 (by decide) (hts (.fieldLink RX3 9 "OrderMover$Least" "numbers" "[I") (by decide +kernel)) (fun _ h9 => h9) rfl dX3_shiftRaised_47 ?_
      refine lv_iload_n hx hb dX3_shiftRaised_50 rfl (lv_at hl 2 rfl) ?_
      obtain ⟨c51_655, h⟩ := sm_ck h
      refine sm_iald hx hb hE hP (t3_1 ha0) c51_655 dX3_shiftRaised_51 ?_
      refine lv_imul hx hb dX3_shiftRaised_52 ?_
      refine lv_isub hx hb dX3_shiftRaised_53 ?_
      refine lv_aload_n hx hb dX3_shiftRaised_54 rfl (lv_at hl 0 rfl) ?_
      refine sm_get (ci := 3) (C := RX3) (T := TX3) (N := 7) (v := .int (M28_644 a0 3)) hx hb hts hin3 hown hE hP ha0 rfl rfl 3 (by decide) (hts (.fieldLink RX3 27 "OrderMover$Least" "p" "I") (by decide +kernel)) (fun _ h9 => h9) rfl dX3_shiftRaised_55 ?_
      obtain ⟨v58_656, hc58_658, h⟩ := sm_bd h
      refine sm_ci (va_runSN (As := [.int ((M28_644 (a0 + 2) ((x2_28_643 - (1 : Int32))).toNatClampNeg) - ((M (a0 + 2) (((M a0 0) - (1 : Int32))).toNatClampNeg) * (M28_644 (a0 + 1) (x2_28_643).toNatClampNeg))), .int (M28_644 a0 3)]) (rest := [.int x2_28_643, .ref (adr (a0 + 2))]) ⟨hx, hb, hml, hown, hts⟩ (k_X11_leftOver l D cA adr hJ ((M28_644 (a0 + 2) ((x2_28_643 - (1 : Int32))).toNatClampNeg) - ((M (a0 + 2) (((M a0 0) - (1 : Int32))).toNatClampNeg) * (M28_644 (a0 + 1) (x2_28_643).toNatClampNeg))) (M28_644 a0 3)  M28_644 v58_656 hc58_658) ⟨va_cnB (host := "OrderMover") 2 hts gX3_shiftRaised_X11_leftOver_n46 rfl rfl rfl (hE.2 (RX3, 46, yX11_leftOver, "OrderMover") (by decide +kernel)) (hts (.initialized RX11) (by decide +kernel)) (by decide +kernel) ⟨Nat.le_of_ble_eq_true rfl, Nat.le_of_ble_eq_true rfl⟩, hts (.static yX11_leftOver) (by decide +kernel), trivial⟩ ⟨smPc_bl, smPc_in [.int ((M28_644 (a0 + 2) ((x2_28_643 - (1 : Int32))).toNatClampNeg) - ((M (a0 + 2) (((M a0 0) - (1 : Int32))).toNatClampNeg) * (M28_644 (a0 + 1) (x2_28_643).toNatClampNeg))), .int (M28_644 a0 3)] hE hP⟩ rfl rfl hl.1 rfl (lv_room (Nat.le_of_ble_eq_true rfl)) dX3_shiftRaised_58 ⟨Nat.zero_le _, Nat.zero_le _⟩) hS (fun H locs hP hS => ?_)
      obtain ⟨c61_659, h⟩ := sm_ck h
      refine sm_iast hx hb hE hJ hP hS (t3_2 ha0) c61_659 dX3_shiftRaised_61 (fun H locs hP hS => ?_)
      obtain ⟨M61_660, hM, h⟩ := sm_lt h
      rw [← hM] at hP; clear hM
      refine lv_iinc (v := (x2_28_643 + (-1 : Int32))) (lv' := [(2, .int (x2_28_643 + (-1 : Int32))), (0, .ref (adr a0)), (1, .int (M (a0 + 2) (((M a0 0) - (1 : Int32))).toNatClampNeg))]) hx hb dX3_shiftRaised_62 hl (k := 2) rfl (congrArg (fun z => x2_28_643 + z) (by decide)) (by decide) rfl (fun ls hl => ?_)
      refine lv_goto (tgt := 28) hx hb dX3_shiftRaised_65 (by decide) ?_
      exact ih28_646 ((x2_28_643 + (-1 : Int32)), M61_660) _ _ _ h ⟨hP, hS, lv_sub hl [1, 2, 0] rfl⟩
  · rw [if_neg c5_641] at h
    cases h
    exact sm_vret hx hb hr hlocks hP hS dX3_shiftRaised_8
set_option maxHeartbeats 4000000 in
set_option maxRecDepth 100000 in
theorem k_X3_squareRaised (l : Launch) (D : va_G) (cA : Nat → ClassId) (adr : Nat → Nat) (hJ : smJ 1 adr) (a0 : Nat) (ha0 : smT 1 a0 3) (M : smM) (M1 : smM) (h : m_X3_squareRaised a0 M = some M1) : Met l yX3_squareRaised wsX3_squareRaised ({ frames := 1, cells := 0, slots := 0, locals := 22 }) (smPc D cA 1 adr M [.ref (adr a0)]) (smQv D cA 1 adr M1) 0 0 (smA 1 adr) := by
  refine Met.ofW (cc := cX3_squareRaised) (maxL := 3) (ret := none) (by decide) rfl ?_
  intro p e s m args below meth c s₁ B hml hv
  obtain ⟨rfl, hE, hP⟩ := hv
  have hx := B.exec
  have hb := B.bytes
  have hr := B.returns
  have hts := atoms_spec (ws := wsX3_squareRaised) B.pre
  have hown : s.vm.findClass RX3 = some m.cls := findClass_of_methodNamed B.named
  have hlocks := B.notSynchronized
  have hS : va_S (smA 1 adr) s.heap s.heap [] := va_S.rf
  have hP : smP D cA 1 adr M s.heap := hP
  have hl := lv_entry ([.ref (adr a0)]) (n := 3) (Nat.le_of_ble_eq_true rfl)
  rw [lg_entry_eq]
  generalize (lg_sl ([.ref (adr a0)]) ++ List.replicate (3 - (lg_sl ([.ref (adr a0)])).length) Slot.unset).toArray = ls at hl ⊢
  have hl : lv_has ls 3 [(0, .ref (adr a0))] := hl
  unfold m_X3_squareRaised at h
  have hin3 : ∀ w ∈ u_ws RX3 TX3 7, w ∈ wsX3_squareRaised := by decide +kernel
  refine lv_aload_n hx hb dX3_squareRaised_0 rfl (lv_at hl 0 rfl) ?_
  refine sm_get (ci := 3) (C := RX3) (T := TX3) (N := 7) (v := .ref (adr (a0 + 3))) hx hb hts hin3 hown hE hP ha0 rfl rfl 4 (by decide) (hts (.fieldLink RX3 18 "OrderMover$Least" "square" "[I") (by decide +kernel)) (fun _ h9 => h9) rfl dX3_squareRaised_1 ?_
  obtain ⟨M4_662, hc4_663, h⟩ := sm_bd h
  refine sm_cv (va_runSN (As := [.ref (adr (a0 + 3))]) (rest := []) ⟨hx, hb, hml, hown, hts⟩ (k_X11_clear l D cA adr hJ (a0 + 3) (t3_4 ha0) M M4_662 hc4_663) ⟨va_cnB (host := "OrderMover") 1 hts gX3_squareRaised_X11_clear_n49 rfl rfl rfl (hE.2 (RX3, 49, yX11_clear, "OrderMover") (by decide +kernel)) (hts (.initialized RX11) (by decide +kernel)) (by decide +kernel) ⟨Nat.le_of_ble_eq_true rfl, Nat.le_of_ble_eq_true rfl⟩, hts (.static yX11_clear) (by decide +kernel), trivial⟩ ⟨smPc_bl, smPc_in [.ref (adr (a0 + 3))] hE hP⟩ rfl rfl hl.1 rfl (lv_room (Nat.le_of_ble_eq_true rfl)) dX3_squareRaised_4 ⟨Nat.zero_le _, Nat.zero_le _⟩) hS (fun H locs hP hS => ?_)
  refine lv_iconst (v := (0 : Int32)) hx hb dX3_squareRaised_7 (by decide) ?_
  refine lv_istore_n (lv' := [(1, .int (0 : Int32)), (0, .ref (adr a0))]) hx hb dX3_squareRaised_8 rfl hl (by decide) rfl (fun ls hl => ?_)
  refine sm_lp (b := fun rc q => m_X3_squareRaised_b9 a0 rc q.1 q.2) (P := fun (q : Int32 × smM) H locs ls => smP D cA 1 adr q.2 H ∧ va_S (smA 1 adr) s.heap H locs ∧ lv_has ls 3 [(0, .ref (adr a0)), (1, .int q.1)]) (pc := 9) ?_ _ _ _ _ _ h ⟨hP, hS, lv_sub hl [1, 0] rfl⟩
  intro rc9_666 ih9_667 q H locs ls h hI
  obtain ⟨x1_9_664, M9_665⟩ := q
  obtain ⟨hP, hS, hl⟩ := hI
  have hP : smP D cA 1 adr M9_665 H := hP
  have hl : lv_has ls 3 [(0, .ref (adr a0)), (1, .int x1_9_664)] := hl
  have h : m_X3_squareRaised_b9 a0 rc9_666 x1_9_664 M9_665 = some _ := h
  unfold m_X3_squareRaised_b9 at h
  refine lv_iload_n hx hb dX3_squareRaised_9 rfl (lv_at hl 1 rfl) ?_
  refine lv_aload_n hx hb dX3_squareRaised_10 rfl (lv_at hl 0 rfl) ?_
  refine sm_get (ci := 3) (C := RX3) (T := TX3) (N := 7) (v := .int (M9_665 a0 0)) hx hb hts hin3 hown hE hP ha0 rfl rfl 0 (by decide) (hts (.fieldLink RX3 37 "OrderMover$Least" "high" "I") (by decide +kernel)) (fun _ h9 => h9) rfl dX3_squareRaised_11 ?_
  refine lv_icmp_ge (tgt := 76) hx hb dX3_squareRaised_14 (by decide) (fun c14_668 => ?_) (fun c14_668 => ?_)
  · rw [if_pos c14_668] at h
    refine lv_iconst (v := (2 : Int32)) hx hb dX3_squareRaised_76 (by decide) ?_
    refine lv_aload_n hx hb dX3_squareRaised_77 rfl (lv_at hl 0 rfl) ?_
    refine sm_get (ci := 3) (C := RX3) (T := TX3) (N := 7) (v := .int (M9_665 a0 0)) hx hb hts hin3 hown hE hP ha0 rfl rfl 0 (by decide) (hts (.fieldLink RX3 37 "OrderMover$Least" "high" "I") (by decide +kernel)) (fun _ h9 => h9) rfl dX3_squareRaised_78 ?_
    refine lv_imul hx hb dX3_squareRaised_81 ?_
    refine lv_iconst (v := (2 : Int32)) hx hb dX3_squareRaised_82 (by decide) ?_
    refine lv_isub hx hb dX3_squareRaised_83 ?_
    refine lv_istore_n (lv' := [(1, .int (((2 : Int32) * (M9_665 a0 0)) - (2 : Int32))), (0, .ref (adr a0))]) hx hb dX3_squareRaised_84 rfl hl (by decide) rfl (fun ls hl => ?_)
    refine sm_lp (b := fun rc q => m_X3_squareRaised_b85 a0 rc9_666 rc q.1 q.2) (P := fun (q : Int32 × smM) H locs ls => smP D cA 1 adr q.2 H ∧ va_S (smA 1 adr) s.heap H locs ∧ lv_has ls 3 [(0, .ref (adr a0)), (1, .int q.1)]) (pc := 85) ?_ _ _ _ _ _ h ⟨hP, hS, lv_sub hl [1, 0] rfl⟩
    intro rc85_671 ih85_672 q H locs ls h hI
    obtain ⟨x1_85_669, M85_670⟩ := q
    obtain ⟨hP, hS, hl⟩ := hI
    have hP : smP D cA 1 adr M85_670 H := hP
    have hl : lv_has ls 3 [(0, .ref (adr a0)), (1, .int x1_85_669)] := hl
    have h : m_X3_squareRaised_b85 a0 rc9_666 rc85_671 x1_85_669 M85_670 = some _ := h
    unfold m_X3_squareRaised_b85 at h
    refine lv_iload_n hx hb dX3_squareRaised_85 rfl (lv_at hl 1 rfl) ?_
    refine lv_aload_n hx hb dX3_squareRaised_86 rfl (lv_at hl 0 rfl) ?_
    refine sm_get (ci := 3) (C := RX3) (T := TX3) (N := 7) (v := .int (M85_670 a0 0)) hx hb hts hin3 hown hE hP ha0 rfl rfl 0 (by decide) (hts (.fieldLink RX3 37 "OrderMover$Least" "high" "I") (by decide +kernel)) (fun _ h9 => h9) rfl dX3_squareRaised_87 ?_
    refine lv_icmp_lt (tgt := 162) hx hb dX3_squareRaised_90 (by decide) (fun c90_673 => ?_) (fun c90_673 => ?_)
    · rw [if_pos c90_673] at h
      refine lv_iconst (v := (0 : Int32)) hx hb dX3_squareRaised_162 (by decide) ?_
      refine lv_istore_n (lv' := [(1, .int (0 : Int32)), (0, .ref (adr a0))]) hx hb dX3_squareRaised_163 rfl hl (by decide) rfl (fun ls hl => ?_)
      refine sm_lp (b := fun rc q => m_X3_squareRaised_b164 a0 rc9_666 rc85_671 rc q.1 q.2) (P := fun (q : Int32 × smM) H locs ls => smP D cA 1 adr q.2 H ∧ va_S (smA 1 adr) s.heap H locs ∧ lv_has ls 3 [(0, .ref (adr a0)), (1, .int q.1)]) (pc := 164) ?_ _ _ _ _ _ h ⟨hP, hS, lv_sub hl [1, 0] rfl⟩
      intro rc164_676 ih164_677 q H locs ls h hI
      obtain ⟨x1_164_674, M164_675⟩ := q
      obtain ⟨hP, hS, hl⟩ := hI
      have hP : smP D cA 1 adr M164_675 H := hP
      have hl : lv_has ls 3 [(0, .ref (adr a0)), (1, .int x1_164_674)] := hl
      have h : m_X3_squareRaised_b164 a0 rc9_666 rc85_671 rc164_676 x1_164_674 M164_675 = some _ := h
      unfold m_X3_squareRaised_b164 at h
      refine lv_iload_n hx hb dX3_squareRaised_164 rfl (lv_at hl 1 rfl) ?_
      refine lv_aload_n hx hb dX3_squareRaised_165 rfl (lv_at hl 0 rfl) ?_
      refine sm_get (ci := 3) (C := RX3) (T := TX3) (N := 7) (v := .int (M164_675 a0 0)) hx hb hts hin3 hown hE hP ha0 rfl rfl 0 (by decide) (hts (.fieldLink RX3 37 "OrderMover$Least" "high" "I") (by decide +kernel)) (fun _ h9 => h9) rfl dX3_squareRaised_166 ?_
      refine lv_icmp_ge (tgt := 190) hx hb dX3_squareRaised_169 (by decide) (fun c169_678 => ?_) (fun c169_678 => ?_)
      · rw [if_pos c169_678] at h
        cases h
        exact sm_vret hx hb hr hlocks hP hS dX3_squareRaised_190
      · rw [if_neg c169_678] at h
        refine lv_aload_n hx hb dX3_squareRaised_172 rfl (lv_at hl 0 rfl) ?_
        refine sm_get (ci := 3) (C := RX3) (T := TX3) (N := 7) (v := .ref (adr (a0 + 2))) hx hb hts hin3 hown hE hP ha0 rfl rfl 2 (by decide) (hts (.fieldLink RX3 15 "OrderMover$Least" "raised" "[I") (by decide +kernel)) (fun _ h9 => h9) rfl dX3_squareRaised_173 ?_
        refine lv_iload_n hx hb dX3_squareRaised_176 rfl (lv_at hl 1 rfl) ?_
        refine lv_aload_n hx hb dX3_squareRaised_177 rfl (lv_at hl 0 rfl) ?_
        refine sm_get (ci := 3) (C := RX3) (T := TX3) (N := 7) (v := .ref (adr (a0 + 3))) hx hb hts hin3 hown hE hP ha0 rfl rfl 4 (by decide) (hts (.fieldLink RX3 18 "OrderMover$Least" "square" "[I") (by decide +kernel)) (fun _ h9 => h9) rfl dX3_squareRaised_178 ?_
        refine lv_iload_n hx hb dX3_squareRaised_181 rfl (lv_at hl 1 rfl) ?_
        obtain ⟨c182_679, h⟩ := sm_ck h
        refine sm_iald hx hb hE hP (t3_4 ha0) c182_679 dX3_squareRaised_182 ?_
        obtain ⟨c183_680, h⟩ := sm_ck h
        refine sm_iast hx hb hE hJ hP hS (t3_2 ha0) c183_680 dX3_squareRaised_183 (fun H locs hP hS => ?_)
        obtain ⟨M183_681, hM, h⟩ := sm_lt h
        rw [← hM] at hP; clear hM
        refine lv_iinc (v := (x1_164_674 + (1 : Int32))) (lv' := [(1, .int (x1_164_674 + (1 : Int32))), (0, .ref (adr a0))]) hx hb dX3_squareRaised_184 hl (k := 1) rfl (congrArg (fun z => x1_164_674 + z) (by decide)) (by decide) rfl (fun ls hl => ?_)
        refine lv_goto (tgt := 164) hx hb dX3_squareRaised_187 (by decide) ?_
        exact ih164_677 ((x1_164_674 + (1 : Int32)), M183_681) _ _ _ h ⟨hP, hS, lv_sub hl [1, 0] rfl⟩
    · rw [if_neg c90_673] at h
      refine lv_iconst (v := (0 : Int32)) hx hb dX3_squareRaised_93 (by decide) ?_
      refine lv_istore_n (lv' := [(2, .int (0 : Int32)), (0, .ref (adr a0)), (1, .int x1_85_669)]) hx hb dX3_squareRaised_94 rfl hl (by decide) rfl (fun ls hl => ?_)
      refine sm_lp (b := fun rc q => m_X3_squareRaised_b95 a0 x1_85_669 rc9_666 rc85_671 rc q.1 q.2) (P := fun (q : Int32 × smM) H locs ls => smP D cA 1 adr q.2 H ∧ va_S (smA 1 adr) s.heap H locs ∧ lv_has ls 3 [(0, .ref (adr a0)), (1, .int x1_85_669), (2, .int q.1)]) (pc := 95) ?_ _ _ _ _ _ h ⟨hP, hS, lv_sub hl [1, 2, 0] rfl⟩
      intro rc95_684 ih95_685 q H locs ls h hI
      obtain ⟨x2_95_682, M95_683⟩ := q
      obtain ⟨hP, hS, hl⟩ := hI
      have hP : smP D cA 1 adr M95_683 H := hP
      have hl : lv_has ls 3 [(0, .ref (adr a0)), (1, .int x1_85_669), (2, .int x2_95_682)] := hl
      have h : m_X3_squareRaised_b95 a0 x1_85_669 rc9_666 rc85_671 rc95_684 x2_95_682 M95_683 = some _ := h
      unfold m_X3_squareRaised_b95 at h
      refine lv_iload_n hx hb dX3_squareRaised_95 rfl (lv_at hl 2 rfl) ?_
      refine lv_aload_n hx hb dX3_squareRaised_96 rfl (lv_at hl 0 rfl) ?_
      refine sm_get (ci := 3) (C := RX3) (T := TX3) (N := 7) (v := .int (M95_683 a0 0)) hx hb hts hin3 hown hE hP ha0 rfl rfl 0 (by decide) (hts (.fieldLink RX3 37 "OrderMover$Least" "high" "I") (by decide +kernel)) (fun _ h9 => h9) rfl dX3_squareRaised_97 ?_
      refine lv_icmp_ge (tgt := 156) hx hb dX3_squareRaised_100 (by decide) (fun c100_686 => ?_) (fun c100_686 => ?_)
      · rw [if_pos c100_686] at h
        refine lv_iinc (v := (x1_85_669 + (-1 : Int32))) (lv' := [(1, .int (x1_85_669 + (-1 : Int32))), (0, .ref (adr a0)), (2, .int x2_95_682)]) hx hb dX3_squareRaised_156 hl (k := 1) rfl (congrArg (fun z => x1_85_669 + z) (by decide)) (by decide) rfl (fun ls hl => ?_)
        refine lv_goto (tgt := 85) hx hb dX3_squareRaised_159 (by decide) ?_
        exact ih85_672 ((x1_85_669 + (-1 : Int32)), M95_683) _ _ _ h ⟨hP, hS, lv_sub hl [1, 0] rfl⟩
      · rw [if_neg c100_686] at h
        refine lv_aload_n hx hb dX3_squareRaised_103 rfl (lv_at hl 0 rfl) ?_
        refine sm_get (ci := 3) (C := RX3) (T := TX3) (N := 7) (v := .ref (adr (a0 + 3))) hx hb hts hin3 hown hE hP ha0 rfl rfl 4 (by decide) (hts (.fieldLink RX3 18 "OrderMover$Least" "square" "[I") (by decide +kernel)) (fun _ h9 => h9) rfl dX3_squareRaised_104 ?_
        refine lv_iload_n hx hb dX3_squareRaised_107 rfl (lv_at hl 1 rfl) ?_
        refine lv_aload_n hx hb dX3_squareRaised_108 rfl (lv_at hl 0 rfl) ?_
        refine sm_get (ci := 3) (C := RX3) (T := TX3) (N := 7) (v := .int (M95_683 a0 0)) hx hb hts hin3 hown hE hP ha0 rfl rfl 0 (by decide) (hts (.fieldLink RX3 37 "OrderMover$Least" "high" "I") (by decide +kernel)) (fun _ h9 => h9) rfl dX3_squareRaised_109 ?_
        refine lv_isub hx hb dX3_squareRaised_112 ?_
        refine lv_iload_n hx hb dX3_squareRaised_113 rfl (lv_at hl 2 rfl) ?_
        refine lv_iadd hx hb dX3_squareRaised_114 ?_
        refine lv_aload_n hx hb dX3_squareRaised_115 rfl (lv_at hl 0 rfl) ?_
        refine sm_get (ci := 3) (C := RX3) (T := TX3) (N := 7) (v := .ref (adr (a0 + 3))) hx hb hts hin3 hown hE hP ha0 rfl rfl 4 (by decide) (hts (.fieldLink RX3 18 "OrderMover$Least" "square" "[I") (by decide +kernel)) (fun _ h9 => h9) rfl dX3_squareRaised_116 ?_
        refine lv_iload_n hx hb dX3_squareRaised_119 rfl (lv_at hl 1 rfl) ?_
        refine lv_aload_n hx hb dX3_squareRaised_120 rfl (lv_at hl 0 rfl) ?_
        refine sm_get (ci := 3) (C := RX3) (T := TX3) (N := 7) (v := .int (M95_683 a0 0)) hx hb hts hin3 hown hE hP ha0 rfl rfl 0 (by decide) (hts (.fieldLink RX3 37 "OrderMover$Least" "high" "I") (by decide +kernel)) (fun _ h9 => h9) rfl dX3_squareRaised_121 ?_
        refine lv_isub hx hb dX3_squareRaised_124 ?_
        refine lv_iload_n hx hb dX3_squareRaised_125 rfl (lv_at hl 2 rfl) ?_
        refine lv_iadd hx hb dX3_squareRaised_126 ?_
        obtain ⟨c127_687, h⟩ := sm_ck h
        refine sm_iald hx hb hE hP (t3_4 ha0) c127_687 dX3_squareRaised_127 ?_
        refine lv_aload_n hx hb dX3_squareRaised_128 rfl (lv_at hl 0 rfl) ?_
        refine sm_get (ci := 3) (C := RX3) (T := TX3) (N := 7) (v := .ref (adr (a0 + 3))) hx hb hts hin3 hown hE hP ha0 rfl rfl 4 (by decide) (hts (.fieldLink RX3 18 "OrderMover$Least" "square" "[I") (by decide +kernel)) (fun _ h9 => h9) rfl dX3_squareRaised_129 ?_
        refine lv_iload_n hx hb dX3_squareRaised_132 rfl (lv_at hl 1 rfl) ?_
        obtain ⟨c133_688, h⟩ := sm_ck h
        refine sm_iald hx hb hE hP (t3_4 ha0) c133_688 dX3_squareRaised_133 ?_
        refine lv_aload_n hx hb dX3_squareRaised_134 rfl (lv_at hl 0 rfl) ?_
        refine sm_get (ci := 3) (C := RX3) (T := TX3) (N := 7) (v := .ref (adr (a0 + 1))) hx hb hts hin3 hown hE hP ha0 rfl rfl 1 (by decide) (hts (.fieldLink RX3 9 "OrderMover$Least" "numbers" "[I") (by decide +kernel)) (fun _ h9 => h9) rfl dX3_squareRaised_135 ?_
        refine lv_iload_n hx hb dX3_squareRaised_138 rfl (lv_at hl 2 rfl) ?_
        obtain ⟨c139_689, h⟩ := sm_ck h
        refine sm_iald hx hb hE hP (t3_1 ha0) c139_689 dX3_squareRaised_139 ?_
        refine lv_imul hx hb dX3_squareRaised_140 ?_
        refine lv_isub hx hb dX3_squareRaised_141 ?_
        refine lv_aload_n hx hb dX3_squareRaised_142 rfl (lv_at hl 0 rfl) ?_
        refine sm_get (ci := 3) (C := RX3) (T := TX3) (N := 7) (v := .int (M95_683 a0 3)) hx hb hts hin3 hown hE hP ha0 rfl rfl 3 (by decide) (hts (.fieldLink RX3 27 "OrderMover$Least" "p" "I") (by decide +kernel)) (fun _ h9 => h9) rfl dX3_squareRaised_143 ?_
        obtain ⟨v146_690, hc146_692, h⟩ := sm_bd h
        refine sm_ci (va_runSN (As := [.int ((M95_683 (a0 + 3) (((x1_85_669 - (M95_683 a0 0)) + x2_95_682)).toNatClampNeg) - ((M95_683 (a0 + 3) (x1_85_669).toNatClampNeg) * (M95_683 (a0 + 1) (x2_95_682).toNatClampNeg))), .int (M95_683 a0 3)]) (rest := [.int ((x1_85_669 - (M95_683 a0 0)) + x2_95_682), .ref (adr (a0 + 3))]) ⟨hx, hb, hml, hown, hts⟩ (k_X11_leftOver l D cA adr hJ ((M95_683 (a0 + 3) (((x1_85_669 - (M95_683 a0 0)) + x2_95_682)).toNatClampNeg) - ((M95_683 (a0 + 3) (x1_85_669).toNatClampNeg) * (M95_683 (a0 + 1) (x2_95_682).toNatClampNeg))) (M95_683 a0 3)  M95_683 v146_690 hc146_692) ⟨va_cnB (host := "OrderMover") 2 hts gX3_squareRaised_X11_leftOver_n46 rfl rfl rfl (hE.2 (RX3, 46, yX11_leftOver, "OrderMover") (by decide +kernel)) (hts (.initialized RX11) (by decide +kernel)) (by decide +kernel) ⟨Nat.le_of_ble_eq_true rfl, Nat.le_of_ble_eq_true rfl⟩, hts (.static yX11_leftOver) (by decide +kernel), trivial⟩ ⟨smPc_bl, smPc_in [.int ((M95_683 (a0 + 3) (((x1_85_669 - (M95_683 a0 0)) + x2_95_682)).toNatClampNeg) - ((M95_683 (a0 + 3) (x1_85_669).toNatClampNeg) * (M95_683 (a0 + 1) (x2_95_682).toNatClampNeg))), .int (M95_683 a0 3)] hE hP⟩ rfl rfl hl.1 rfl (lv_room (Nat.le_of_ble_eq_true rfl)) dX3_squareRaised_146 ⟨Nat.zero_le _, Nat.zero_le _⟩) hS (fun H locs hP hS => ?_)
        obtain ⟨c149_693, h⟩ := sm_ck h
        refine sm_iast hx hb hE hJ hP hS (t3_4 ha0) c149_693 dX3_squareRaised_149 (fun H locs hP hS => ?_)
        obtain ⟨M149_694, hM, h⟩ := sm_lt h
        rw [← hM] at hP; clear hM
        refine lv_iinc (v := (x2_95_682 + (1 : Int32))) (lv' := [(2, .int (x2_95_682 + (1 : Int32))), (0, .ref (adr a0)), (1, .int x1_85_669)]) hx hb dX3_squareRaised_150 hl (k := 2) rfl (congrArg (fun z => x2_95_682 + z) (by decide)) (by decide) rfl (fun ls hl => ?_)
        refine lv_goto (tgt := 95) hx hb dX3_squareRaised_153 (by decide) ?_
        exact ih95_685 ((x2_95_682 + (1 : Int32)), M149_694) _ _ _ h ⟨hP, hS, lv_sub hl [1, 2, 0] rfl⟩
  · rw [if_neg c14_668] at h
    refine lv_iconst (v := (0 : Int32)) hx hb dX3_squareRaised_17 (by decide) ?_
    refine lv_istore_n (lv' := [(2, .int (0 : Int32)), (0, .ref (adr a0)), (1, .int x1_9_664)]) hx hb dX3_squareRaised_18 rfl hl (by decide) rfl (fun ls hl => ?_)
    refine sm_lp (b := fun rc q => m_X3_squareRaised_b19 a0 x1_9_664 rc9_666 rc q.1 q.2) (P := fun (q : Int32 × smM) H locs ls => smP D cA 1 adr q.2 H ∧ va_S (smA 1 adr) s.heap H locs ∧ lv_has ls 3 [(0, .ref (adr a0)), (1, .int x1_9_664), (2, .int q.1)]) (pc := 19) ?_ _ _ _ _ _ h ⟨hP, hS, lv_sub hl [1, 2, 0] rfl⟩
    intro rc19_697 ih19_698 q H locs ls h hI
    obtain ⟨x2_19_695, M19_696⟩ := q
    obtain ⟨hP, hS, hl⟩ := hI
    have hP : smP D cA 1 adr M19_696 H := hP
    have hl : lv_has ls 3 [(0, .ref (adr a0)), (1, .int x1_9_664), (2, .int x2_19_695)] := hl
    have h : m_X3_squareRaised_b19 a0 x1_9_664 rc9_666 rc19_697 x2_19_695 M19_696 = some _ := h
    unfold m_X3_squareRaised_b19 at h
    refine lv_iload_n hx hb dX3_squareRaised_19 rfl (lv_at hl 2 rfl) ?_
    refine lv_aload_n hx hb dX3_squareRaised_20 rfl (lv_at hl 0 rfl) ?_
    refine sm_get (ci := 3) (C := RX3) (T := TX3) (N := 7) (v := .int (M19_696 a0 0)) hx hb hts hin3 hown hE hP ha0 rfl rfl 0 (by decide) (hts (.fieldLink RX3 37 "OrderMover$Least" "high" "I") (by decide +kernel)) (fun _ h9 => h9) rfl dX3_squareRaised_21 ?_
    refine lv_icmp_ge (tgt := 70) hx hb dX3_squareRaised_24 (by decide) (fun c24_699 => ?_) (fun c24_699 => ?_)
    · rw [if_pos c24_699] at h
      refine lv_iinc (v := (x1_9_664 + (1 : Int32))) (lv' := [(1, .int (x1_9_664 + (1 : Int32))), (0, .ref (adr a0)), (2, .int x2_19_695)]) hx hb dX3_squareRaised_70 hl (k := 1) rfl (congrArg (fun z => x1_9_664 + z) (by decide)) (by decide) rfl (fun ls hl => ?_)
      refine lv_goto (tgt := 9) hx hb dX3_squareRaised_73 (by decide) ?_
      exact ih9_667 ((x1_9_664 + (1 : Int32)), M19_696) _ _ _ h ⟨hP, hS, lv_sub hl [1, 0] rfl⟩
    · rw [if_neg c24_699] at h
      refine lv_aload_n hx hb dX3_squareRaised_27 rfl (lv_at hl 0 rfl) ?_
      refine sm_get (ci := 3) (C := RX3) (T := TX3) (N := 7) (v := .ref (adr (a0 + 3))) hx hb hts hin3 hown hE hP ha0 rfl rfl 4 (by decide) (hts (.fieldLink RX3 18 "OrderMover$Least" "square" "[I") (by decide +kernel)) (fun _ h9 => h9) rfl dX3_squareRaised_28 ?_
      refine lv_iload_n hx hb dX3_squareRaised_31 rfl (lv_at hl 1 rfl) ?_
      refine lv_iload_n hx hb dX3_squareRaised_32 rfl (lv_at hl 2 rfl) ?_
      refine lv_iadd hx hb dX3_squareRaised_33 ?_
      refine lv_aload_n hx hb dX3_squareRaised_34 rfl (lv_at hl 0 rfl) ?_
      refine sm_get (ci := 3) (C := RX3) (T := TX3) (N := 7) (v := .ref (adr (a0 + 3))) hx hb hts hin3 hown hE hP ha0 rfl rfl 4 (by decide) (hts (.fieldLink RX3 18 "OrderMover$Least" "square" "[I") (by decide +kernel)) (fun _ h9 => h9) rfl dX3_squareRaised_35 ?_
      refine lv_iload_n hx hb dX3_squareRaised_38 rfl (lv_at hl 1 rfl) ?_
      refine lv_iload_n hx hb dX3_squareRaised_39 rfl (lv_at hl 2 rfl) ?_
      refine lv_iadd hx hb dX3_squareRaised_40 ?_
      obtain ⟨c41_700, h⟩ := sm_ck h
      refine sm_iald hx hb hE hP (t3_4 ha0) c41_700 dX3_squareRaised_41 ?_
      refine lv_aload_n hx hb dX3_squareRaised_42 rfl (lv_at hl 0 rfl) ?_
      refine sm_get (ci := 3) (C := RX3) (T := TX3) (N := 7) (v := .ref (adr (a0 + 2))) hx hb hts hin3 hown hE hP ha0 rfl rfl 2 (by decide) (hts (.fieldLink RX3 15 "OrderMover$Least" "raised" "[I") (by decide +kernel)) (fun _ h9 => h9) rfl dX3_squareRaised_43 ?_
      refine lv_iload_n hx hb dX3_squareRaised_46 rfl (lv_at hl 1 rfl) ?_
      obtain ⟨c47_701, h⟩ := sm_ck h
      refine sm_iald hx hb hE hP (t3_2 ha0) c47_701 dX3_squareRaised_47 ?_
      refine lv_aload_n hx hb dX3_squareRaised_48 rfl (lv_at hl 0 rfl) ?_
      refine sm_get (ci := 3) (C := RX3) (T := TX3) (N := 7) (v := .ref (adr (a0 + 2))) hx hb hts hin3 hown hE hP ha0 rfl rfl 2 (by decide) (hts (.fieldLink RX3 15 "OrderMover$Least" "raised" "[I") (by decide +kernel)) (fun _ h9 => h9) rfl dX3_squareRaised_49 ?_
      refine lv_iload_n hx hb dX3_squareRaised_52 rfl (lv_at hl 2 rfl) ?_
      obtain ⟨c53_702, h⟩ := sm_ck h
      refine sm_iald hx hb hE hP (t3_2 ha0) c53_702 dX3_squareRaised_53 ?_
      refine lv_imul hx hb dX3_squareRaised_54 ?_
      refine lv_iadd hx hb dX3_squareRaised_55 ?_
      refine lv_aload_n hx hb dX3_squareRaised_56 rfl (lv_at hl 0 rfl) ?_
      refine sm_get (ci := 3) (C := RX3) (T := TX3) (N := 7) (v := .int (M19_696 a0 3)) hx hb hts hin3 hown hE hP ha0 rfl rfl 3 (by decide) (hts (.fieldLink RX3 27 "OrderMover$Least" "p" "I") (by decide +kernel)) (fun _ h9 => h9) rfl dX3_squareRaised_57 ?_
      obtain ⟨v60_703, hc60_705, h⟩ := sm_bd h
      refine sm_ci (va_runSN (As := [.int ((M19_696 (a0 + 3) ((x1_9_664 + x2_19_695)).toNatClampNeg) + ((M19_696 (a0 + 2) (x1_9_664).toNatClampNeg) * (M19_696 (a0 + 2) (x2_19_695).toNatClampNeg))), .int (M19_696 a0 3)]) (rest := [.int (x1_9_664 + x2_19_695), .ref (adr (a0 + 3))]) ⟨hx, hb, hml, hown, hts⟩ (k_X11_leftOver l D cA adr hJ ((M19_696 (a0 + 3) ((x1_9_664 + x2_19_695)).toNatClampNeg) + ((M19_696 (a0 + 2) (x1_9_664).toNatClampNeg) * (M19_696 (a0 + 2) (x2_19_695).toNatClampNeg))) (M19_696 a0 3)  M19_696 v60_703 hc60_705) ⟨va_cnB (host := "OrderMover") 2 hts gX3_squareRaised_X11_leftOver_n46 rfl rfl rfl (hE.2 (RX3, 46, yX11_leftOver, "OrderMover") (by decide +kernel)) (hts (.initialized RX11) (by decide +kernel)) (by decide +kernel) ⟨Nat.le_of_ble_eq_true rfl, Nat.le_of_ble_eq_true rfl⟩, hts (.static yX11_leftOver) (by decide +kernel), trivial⟩ ⟨smPc_bl, smPc_in [.int ((M19_696 (a0 + 3) ((x1_9_664 + x2_19_695)).toNatClampNeg) + ((M19_696 (a0 + 2) (x1_9_664).toNatClampNeg) * (M19_696 (a0 + 2) (x2_19_695).toNatClampNeg))), .int (M19_696 a0 3)] hE hP⟩ rfl rfl hl.1 rfl (lv_room (Nat.le_of_ble_eq_true rfl)) dX3_squareRaised_60 ⟨Nat.zero_le _, Nat.zero_le _⟩) hS (fun H locs hP hS => ?_)
      obtain ⟨c63_706, h⟩ := sm_ck h
      refine sm_iast hx hb hE hJ hP hS (t3_4 ha0) c63_706 dX3_squareRaised_63 (fun H locs hP hS => ?_)
      obtain ⟨M63_707, hM, h⟩ := sm_lt h
      rw [← hM] at hP; clear hM
      refine lv_iinc (v := (x2_19_695 + (1 : Int32))) (lv' := [(2, .int (x2_19_695 + (1 : Int32))), (0, .ref (adr a0)), (1, .int x1_9_664)]) hx hb dX3_squareRaised_64 hl (k := 2) rfl (congrArg (fun z => x2_19_695 + z) (by decide)) (by decide) rfl (fun ls hl => ?_)
      refine lv_goto (tgt := 19) hx hb dX3_squareRaised_67 (by decide) ?_
      exact ih19_698 ((x2_19_695 + (1 : Int32)), M63_707) _ _ _ h ⟨hP, hS, lv_sub hl [1, 2, 0] rfl⟩
