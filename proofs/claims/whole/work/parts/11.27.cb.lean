set_option maxHeartbeats 4000000 in
set_option maxRecDepth 100000 in
theorem cn_10_150 (l : Launch) (D : va_G) (cA : Nat → ClassId) (h0 sz : Nat) : Met l yX10_init wsX10_init ({ frames := 1, cells := 0, slots := 0, locals := 12 }) (cn_Pc D cA h0 sz (.inr (10, [.int 0, .int 0, .int 0])) [.ref h0]) (cn_Qc D cA h0 sz (.inr (10, [.int 0, .int 0, .int 0])) 150 [150]) 0 0 (va_A [(h0, .inr (10, [.int 0, .int 0, .int 0]))] sz) := by
  refine Met.ofW (cc := cX10_init) (maxL := 1) (ret := none) (by decide) rfl ?_
  intro p e s m args below meth c s₁ B hml hv
  obtain ⟨rfl, hsz, hP, hE, hD0⟩ := hv
  have hx := B.exec
  have hb := B.bytes
  have hr := B.returns
  have hts := atoms_spec (ws := wsX10_init) B.pre
  have hown : s.vm.findClass RX10 = some m.cls := findClass_of_methodNamed B.named
  have hlocks := B.notSynchronized
  have hin : meth.name = "<init>" := (name_of_methodNamed B.named B.method).1
  subst hsz
  have hD := hD0.self (sz := s.heap.size)
  unfold cn_Qc
  generalize hAe : va_A [(h0, .inr (10, [.int 0, .int 0, .int 0]))] s.heap.size = A at hD ⊢
  have hA : ∀ q : Nat, s.heap.size ≤ q → A q := fun q h => by rw [← hAe]; exact Or.inr h
  have hS : va_S A s.heap s.heap [] := va_S.rf
  have hP : va_P D vwCl ([(h0, .inr (10, [.int 0, .int 0, .int 0]))] ++ ([] : va_W)) s.heap := hP
  have hD : va_D A ([(h0, .inr (10, [.int 0, .int 0, .int 0]))] ++ ([] : va_W)) := hD
  have hl := lv_entry ([.ref h0]) (n := 1) (Nat.le_of_ble_eq_true rfl)
  rw [lg_entry_eq]
  generalize (lg_sl ([.ref h0]) ++ List.replicate (1 - (lg_sl ([.ref h0])).length) Slot.unset).toArray = ls at hl ⊢
  have hl : lv_has ls 1 [(0, .ref h0)] := hl
  have hin10 : ∀ w ∈ u_ws RX10 TX10 3, w ∈ wsX10_init := by decide +kernel
  refine lv_aload_n hx hb dX10_init_0 rfl (lv_at hl 0 rfl) ?_
  refine W.objInit hx hb hown (hts (.methodLink RX10 1 objectInit) (by decide +kernel)) (hts (.instanceMethod objectInit) (by decide +kernel)) (hts (.code objectInit ⟨#[0xb1]⟩ 1 none) (by decide +kernel)) rfl (by rw [hml]; exact hl.1) rfl dX10_init_1 (Nat.le_of_ble_eq_true rfl) (Nat.le_of_ble_eq_true rfl) ?_
  refine W.eq (g2 := F0 m 4 ls []) rfl ?_
  refine lv_aload_n hx hb dX10_init_4 rfl (lv_at hl 0 rfl) ?_
  refine lv_iconst (v := (1 : Int32)) hx hb dX10_init_5 (by decide) ?_
  refine va_put (D := D) (ci := 10) (v := .int (1 : Int32)) (ty := .int) (C := RX10) (T := TX10) (N := 3) hx hb hts hin10 tyX10 tyX10_ok nmX10 hown hE.1.1 hP hD hS 0 rfl rfl 1 (by decide) (hts (.fieldLink RX10 7 "OrderMover$TermOrder" "u" "I") (by decide +kernel)) (fun _ h9 => h9) rfl  (by decide +kernel) rfl rfl (Nat.le_of_ble_eq_true rfl) dX10_init_6 (fun H locs hP hD hS => ?_)
  have hP : va_P D vwCl ([(h0, .inr (10, [.int 0, .int (1 : Int32), .int 0]))] ++ ([] : va_W)) H := hP
  have hD : va_D A ([(h0, .inr (10, [.int 0, .int (1 : Int32), .int 0]))] ++ ([] : va_W)) := hD
  refine lv_aload_n hx hb dX10_init_9 rfl (lv_at hl 0 rfl) ?_
  refine lv_iconst (v := (1 : Int32)) hx hb dX10_init_10 (by decide) ?_
  refine va_put (D := D) (ci := 10) (v := .int (1 : Int32)) (ty := .int) (C := RX10) (T := TX10) (N := 3) hx hb hts hin10 tyX10 tyX10_ok nmX10 hown hE.1.1 hP hD hS 0 rfl rfl 2 (by decide) (hts (.fieldLink RX10 13 "OrderMover$TermOrder" "v" "I") (by decide +kernel)) (fun _ h9 => h9) rfl  (by decide +kernel) rfl rfl (Nat.le_of_ble_eq_true rfl) dX10_init_11 (fun H locs hP hD hS => ?_)
  have hP : va_P D vwCl ([(h0, .inr (10, [.int 0, .int (1 : Int32), .int (1 : Int32)]))] ++ ([] : va_W)) H := hP
  have hD : va_D A ([(h0, .inr (10, [.int 0, .int (1 : Int32), .int (1 : Int32)]))] ++ ([] : va_W)) := hD
  have e0 : [(h0, .inr (10, [.int 0, .int (1 : Int32), .int (1 : Int32)]))] = cn_rl cA [150] (fun q : Nat => if q = 150 then h0 else 0) := by
    refine cn_cons rfl rfl ?_
    exact rfl
  have e9 : [(h0, .inr (10, [.int 0, .int (1 : Int32), .int (1 : Int32)]))] ++ ([] : va_W) = cn_rl cA [150] (fun q : Nat => if q = 150 then h0 else 0) := by
    rw [e0]
    exact rfl
  rw [e9] at hP hD
  exact W.vret hx hb hr (fun t ht hW => ⟨⟨(fun q : Nat => if q = 150 then h0 else 0), rfl, rfl, by rw [ht]; exact hP, hD⟩, hS.F ht⟩) hS.2.2 dX10_init_14
set_option maxHeartbeats 4000000 in
set_option maxRecDepth 100000 in
theorem cn_4_151 (l : Launch) (D : va_G) (cA : Nat → ClassId) (h0 sz : Nat) : Met l yX4_init wsX4_init ({ frames := 1, cells := 13, slots := 120, locals := 12 }) (cn_Pc D cA h0 sz (.inr (4, [.int 0, .null, .null, .null])) [.ref h0]) (cn_Qc D cA h0 sz (.inr (4, [.int 0, .null, .null, .null])) 151 [151, 152, 153, 154, 155, 156, 157, 158, 159, 160, 161, 162, 163, 164]) 13 120 (va_A [(h0, .inr (4, [.int 0, .null, .null, .null]))] sz) := by
  refine Met.ofW (cc := cX4_init) (maxL := 1) (ret := none) (by decide) rfl ?_
  intro p e s m args below meth c s₁ B hml hv
  obtain ⟨rfl, hsz, hP, hE, hD0⟩ := hv
  have hx := B.exec
  have hb := B.bytes
  have hr := B.returns
  have hts := atoms_spec (ws := wsX4_init) B.pre
  have hown : s.vm.findClass RX4 = some m.cls := findClass_of_methodNamed B.named
  have hlocks := B.notSynchronized
  have hin : meth.name = "<init>" := (name_of_methodNamed B.named B.method).1
  subst hsz
  have hD := hD0.self (sz := s.heap.size)
  unfold cn_Qc
  generalize hAe : va_A [(h0, .inr (4, [.int 0, .null, .null, .null]))] s.heap.size = A at hD ⊢
  have hA : ∀ q : Nat, s.heap.size ≤ q → A q := fun q h => by rw [← hAe]; exact Or.inr h
  have hS : va_S A s.heap s.heap [] := va_S.rf
  have hP : va_P D vwCl ([(h0, .inr (4, [.int 0, .null, .null, .null]))] ++ ([] : va_W)) s.heap := hP
  have hD : va_D A ([(h0, .inr (4, [.int 0, .null, .null, .null]))] ++ ([] : va_W)) := hD
  have hl := lv_entry ([.ref h0]) (n := 1) (Nat.le_of_ble_eq_true rfl)
  rw [lg_entry_eq]
  generalize (lg_sl ([.ref h0]) ++ List.replicate (1 - (lg_sl ([.ref h0])).length) Slot.unset).toArray = ls at hl ⊢
  have hl : lv_has ls 1 [(0, .ref h0)] := hl
  have hin4 : ∀ w ∈ u_ws RX4 TX4 4, w ∈ wsX4_init := by decide +kernel
  refine lv_aload_n hx hb dX4_init_0 rfl (lv_at hl 0 rfl) ?_
  refine W.objInit hx hb hown (hts (.methodLink RX4 3 objectInit) (by decide +kernel)) (hts (.instanceMethod objectInit) (by decide +kernel)) (hts (.code objectInit ⟨#[0xb1]⟩ 1 none) (by decide +kernel)) rfl (by rw [hml]; exact hl.1) rfl dX4_init_1 (Nat.le_of_ble_eq_true rfl) (Nat.le_of_ble_eq_true rfl) ?_
  refine W.eq (g2 := F0 m 4 ls []) rfl ?_
  refine lv_aload_n hx hb dX4_init_4 rfl (lv_at hl 0 rfl) ?_
  refine lv_bipush (v := (10 : Int32)) hx hb dX4_init_5 (by decide) ?_
  refine cn_newi (N := 10) hx hb (hts (.arrayClass .int) (by decide +kernel)) hE hP hD hS hA (by decide) (by decide) (by decide) (Nat.le_of_ble_eq_true rfl) (Nat.le_of_ble_eq_true rfl) dX4_init_7 (fun q7 H hP hD hS => ?_)
  have hP : va_P D vwCl ([(h0, .inr (4, [.int 0, .null, .null, .null])), (q7, .inl (cA 0, 10, .inl (fun _ => 0)))] ++ ([] : va_W)) H := hP
  have hD : va_D A ([(h0, .inr (4, [.int 0, .null, .null, .null])), (q7, .inl (cA 0, 10, .inl (fun _ => 0)))] ++ ([] : va_W)) := hD
  refine va_putF (D := D) (ci := 4) (v := .ref q7) (ty := .array .int) (C := RX4) (T := TX4) (N := 4) hx hb hts hin4 tyX4 tyX4_ok nmX4 hown hE.1.1 hP hD hS 0 rfl rfl 1 (by decide) (hts (.fieldLink RX4 9 "OrderMover$Members" "xs" "[I") (by decide +kernel)) (fun _ h9 => h9) rfl hin rfl (by decide +kernel) rfl rfl (Nat.le_of_ble_eq_true rfl) dX4_init_9 (fun H locs hP hD hS => ?_)
  have hP : va_P D vwCl ([(h0, .inr (4, [.int 0, .ref q7, .null, .null])), (q7, .inl (cA 0, 10, .inl (fun _ => 0)))] ++ ([] : va_W)) H := hP
  have hD : va_D A ([(h0, .inr (4, [.int 0, .ref q7, .null, .null])), (q7, .inl (cA 0, 10, .inl (fun _ => 0)))] ++ ([] : va_W)) := hD
  refine lv_aload_n hx hb dX4_init_12 rfl (lv_at hl 0 rfl) ?_
  refine lv_bipush (v := (10 : Int32)) hx hb dX4_init_13 (by decide) ?_
  refine cn_newi (N := 10) hx hb (hts (.arrayClass .int) (by decide +kernel)) hE hP hD hS hA (by decide) (by decide) (by decide) (Nat.le_of_ble_eq_true rfl) (Nat.le_of_ble_eq_true rfl) dX4_init_15 (fun q15 H hP hD hS => ?_)
  have hP : va_P D vwCl ([(h0, .inr (4, [.int 0, .ref q7, .null, .null])), (q7, .inl (cA 0, 10, .inl (fun _ => 0))), (q15, .inl (cA 0, 10, .inl (fun _ => 0)))] ++ ([] : va_W)) H := hP
  have hD : va_D A ([(h0, .inr (4, [.int 0, .ref q7, .null, .null])), (q7, .inl (cA 0, 10, .inl (fun _ => 0))), (q15, .inl (cA 0, 10, .inl (fun _ => 0)))] ++ ([] : va_W)) := hD
  refine va_putF (D := D) (ci := 4) (v := .ref q15) (ty := .array .int) (C := RX4) (T := TX4) (N := 4) hx hb hts hin4 tyX4 tyX4_ok nmX4 hown hE.1.1 hP hD hS 0 rfl rfl 2 (by decide) (hts (.fieldLink RX4 15 "OrderMover$Members" "ys" "[I") (by decide +kernel)) (fun _ h9 => h9) rfl hin rfl (by decide +kernel) rfl rfl (Nat.le_of_ble_eq_true rfl) dX4_init_17 (fun H locs hP hD hS => ?_)
  have hP : va_P D vwCl ([(h0, .inr (4, [.int 0, .ref q7, .ref q15, .null])), (q7, .inl (cA 0, 10, .inl (fun _ => 0))), (q15, .inl (cA 0, 10, .inl (fun _ => 0)))] ++ ([] : va_W)) H := hP
  have hD : va_D A ([(h0, .inr (4, [.int 0, .ref q7, .ref q15, .null])), (q7, .inl (cA 0, 10, .inl (fun _ => 0))), (q15, .inl (cA 0, 10, .inl (fun _ => 0)))] ++ ([] : va_W)) := hD
  refine lv_aload_n hx hb dX4_init_20 rfl (lv_at hl 0 rfl) ?_
  refine lv_bipush (v := (10 : Int32)) hx hb dX4_init_21 (by decide) ?_
  refine lv_bipush (v := (9 : Int32)) hx hb dX4_init_23 (by decide) ?_
  refine cn_mna (N := 10) (K := 9) hx hb hown (hts (.classLink RX4 18 "[[I") (by decide +kernel)) (hts (.arrayClass .int) (by decide +kernel)) hE hP hD hS hA (by decide) (by decide) (by decide) (by decide) (by decide) (by decide) (by decide) (Nat.le_of_ble_eq_true rfl) (Nat.le_of_ble_eq_true rfl) dX4_init_25 (fun q25 rf25 H hP hD hS => ?_)
  have hP : va_P D vwCl ([(h0, .inr (4, [.int 0, .ref q7, .ref q15, .null])), (q7, .inl (cA 0, 10, .inl (fun _ => 0))), (q15, .inl (cA 0, 10, .inl (fun _ => 0))), (q25, .inl (cA 2, 10, .inr (.inr (.inr (.inr (fun i => if i < 10 then some (rf25 i) else none))))))] ++ (cn_rows cA 10 9 rf25 ++ ([] : va_W))) H := hP
  have hD : va_D A ([(h0, .inr (4, [.int 0, .ref q7, .ref q15, .null])), (q7, .inl (cA 0, 10, .inl (fun _ => 0))), (q15, .inl (cA 0, 10, .inl (fun _ => 0))), (q25, .inl (cA 2, 10, .inr (.inr (.inr (.inr (fun i => if i < 10 then some (rf25 i) else none))))))] ++ (cn_rows cA 10 9 rf25 ++ ([] : va_W))) := hD
  refine va_putF (D := D) (ci := 4) (v := .ref q25) (ty := .array (.array .int)) (C := RX4) (T := TX4) (N := 4) hx hb hts hin4 tyX4 tyX4_ok nmX4 hown hE.1.1 hP hD hS 0 rfl rfl 3 (by decide) (hts (.fieldLink RX4 20 "OrderMover$Members" "tails" "[[I") (by decide +kernel)) (fun _ h9 => h9) rfl hin rfl (by decide +kernel) rfl rfl (Nat.le_of_ble_eq_true rfl) dX4_init_29 (fun H locs hP hD hS => ?_)
  have hP : va_P D vwCl ([(h0, .inr (4, [.int 0, .ref q7, .ref q15, .ref q25])), (q7, .inl (cA 0, 10, .inl (fun _ => 0))), (q15, .inl (cA 0, 10, .inl (fun _ => 0))), (q25, .inl (cA 2, 10, .inr (.inr (.inr (.inr (fun i => if i < 10 then some (rf25 i) else none))))))] ++ (cn_rows cA 10 9 rf25 ++ ([] : va_W))) H := hP
  have hD : va_D A ([(h0, .inr (4, [.int 0, .ref q7, .ref q15, .ref q25])), (q7, .inl (cA 0, 10, .inl (fun _ => 0))), (q15, .inl (cA 0, 10, .inl (fun _ => 0))), (q25, .inl (cA 2, 10, .inr (.inr (.inr (.inr (fun i => if i < 10 then some (rf25 i) else none))))))] ++ (cn_rows cA 10 9 rf25 ++ ([] : va_W))) := hD
  have e0 : [(h0, .inr (4, [.int 0, .ref q7, .ref q15, .ref q25])), (q7, .inl (cA 0, 10, .inl (fun _ => 0))), (q15, .inl (cA 0, 10, .inl (fun _ => 0))), (q25, .inl (cA 2, 10, .inr (.inr (.inr (.inr (fun i => if i < 10 then some (rf25 i) else none))))))] = cn_rl cA [151, 152, 153, 154] (fun q : Nat => if q = 151 then h0 else if q = 152 then q7 else if q = 153 then q15 else if q = 154 then q25 else if 155 ≤ q ∧ q < 165 then rf25 (q - 155) else 0) := by
    refine cn_cons rfl rfl ?_
    refine cn_cons rfl rfl ?_
    refine cn_cons rfl rfl ?_
    refine cn_cons rfl (cn_qq (t0 := 2) (n := 10) (g := fun j => if j < 10 then some (((fun q : Nat => if q = 151 then h0 else if q = 152 then q7 else if q = 153 then q15 else if q = 154 then q25 else if 155 ≤ q ∧ q < 165 then rf25 (q - 155) else 0)) (154 + 1 + j)) else none) rfl (fun j => ?_)) ?_
    · by_cases hj : j < 10
      · rw [if_pos hj, if_pos hj]
        show some (rf25 j) = some (if (154 + 1 + j) = 151 then h0 else if (154 + 1 + j) = 152 then q7 else if (154 + 1 + j) = 153 then q15 else if (154 + 1 + j) = 154 then q25 else if 155 ≤ (154 + 1 + j) ∧ (154 + 1 + j) < 165 then rf25 ((154 + 1 + j) - 155) else 0)
        rw [if_neg (show ¬ 154 + 1 + j = 151 by omega), if_neg (show ¬ 154 + 1 + j = 152 by omega), if_neg (show ¬ 154 + 1 + j = 153 by omega), if_neg (show ¬ 154 + 1 + j = 154 by omega), if_pos (show 155 ≤ 154 + 1 + j ∧ 154 + 1 + j < 165 by omega)]
        rw [show 154 + 1 + j - 155 = j by omega]
      · rw [if_neg hj, if_neg hj]
    exact rfl
  have e1 : cn_rows cA 10 9 rf25 = cn_rl cA [155, 156, 157, 158, 159, 160, 161, 162, 163, 164] (fun q : Nat => if q = 151 then h0 else if q = 152 then q7 else if q = 153 then q15 else if q = 154 then q25 else if 155 ≤ q ∧ q < 165 then rf25 (q - 155) else 0) := by
    exact rfl
  have e9 : [(h0, .inr (4, [.int 0, .ref q7, .ref q15, .ref q25])), (q7, .inl (cA 0, 10, .inl (fun _ => 0))), (q15, .inl (cA 0, 10, .inl (fun _ => 0))), (q25, .inl (cA 2, 10, .inr (.inr (.inr (.inr (fun i => if i < 10 then some (rf25 i) else none))))))] ++ (cn_rows cA 10 9 rf25 ++ ([] : va_W)) = cn_rl cA [151, 152, 153, 154, 155, 156, 157, 158, 159, 160, 161, 162, 163, 164] (fun q : Nat => if q = 151 then h0 else if q = 152 then q7 else if q = 153 then q15 else if q = 154 then q25 else if 155 ≤ q ∧ q < 165 then rf25 (q - 155) else 0) := by
    rw [e0, e1]
    exact rfl
  rw [e9] at hP hD
  exact W.vret hx hb hr (fun t ht hW => ⟨⟨(fun q : Nat => if q = 151 then h0 else if q = 152 then q7 else if q = 153 then q15 else if q = 154 then q25 else if 155 ≤ q ∧ q < 165 then rf25 (q - 155) else 0), rfl, rfl, by rw [ht]; exact hP, hD⟩, hS.F ht⟩) hS.2.2 dX4_init_32
set_option maxHeartbeats 4000000 in
set_option maxRecDepth 100000 in
theorem cn_9_165 (l : Launch) (D : va_G) (cA : Nat → ClassId) (h0 sz : Nat) : Met l yX9_init wsX9_init ({ frames := 1, cells := 21, slots := 189, locals := 12 }) (cn_Pc D cA h0 sz (.inr (9, [.int 0, .int 0, .null, .null, .null])) [.ref h0]) (cn_Qc D cA h0 sz (.inr (9, [.int 0, .int 0, .null, .null, .null])) 165 [165, 166, 176, 186, 177, 178, 179, 180, 181, 182, 183, 184, 185, 167, 168, 169, 170, 171, 172, 173, 174, 175]) 21 189 (va_A [(h0, .inr (9, [.int 0, .int 0, .null, .null, .null]))] sz) := by
  refine Met.ofW (cc := cX9_init) (maxL := 1) (ret := none) (by decide) rfl ?_
  intro p e s m args below meth c s₁ B hml hv
  obtain ⟨rfl, hsz, hP, hE, hD0⟩ := hv
  have hx := B.exec
  have hb := B.bytes
  have hr := B.returns
  have hts := atoms_spec (ws := wsX9_init) B.pre
  have hown : s.vm.findClass RX9 = some m.cls := findClass_of_methodNamed B.named
  have hlocks := B.notSynchronized
  have hin : meth.name = "<init>" := (name_of_methodNamed B.named B.method).1
  subst hsz
  have hD := hD0.self (sz := s.heap.size)
  unfold cn_Qc
  generalize hAe : va_A [(h0, .inr (9, [.int 0, .int 0, .null, .null, .null]))] s.heap.size = A at hD ⊢
  have hA : ∀ q : Nat, s.heap.size ≤ q → A q := fun q h => by rw [← hAe]; exact Or.inr h
  have hS : va_S A s.heap s.heap [] := va_S.rf
  have hP : va_P D vwCl ([(h0, .inr (9, [.int 0, .int 0, .null, .null, .null]))] ++ ([] : va_W)) s.heap := hP
  have hD : va_D A ([(h0, .inr (9, [.int 0, .int 0, .null, .null, .null]))] ++ ([] : va_W)) := hD
  have hl := lv_entry ([.ref h0]) (n := 1) (Nat.le_of_ble_eq_true rfl)
  rw [lg_entry_eq]
  generalize (lg_sl ([.ref h0]) ++ List.replicate (1 - (lg_sl ([.ref h0])).length) Slot.unset).toArray = ls at hl ⊢
  have hl : lv_has ls 1 [(0, .ref h0)] := hl
  have hin9 : ∀ w ∈ u_ws RX9 TX9 5, w ∈ wsX9_init := by decide +kernel
  refine lv_aload_n hx hb dX9_init_0 rfl (lv_at hl 0 rfl) ?_
  refine W.objInit hx hb hown (hts (.methodLink RX9 3 objectInit) (by decide +kernel)) (hts (.instanceMethod objectInit) (by decide +kernel)) (hts (.code objectInit ⟨#[0xb1]⟩ 1 none) (by decide +kernel)) rfl (by rw [hml]; exact hl.1) rfl dX9_init_1 (Nat.le_of_ble_eq_true rfl) (Nat.le_of_ble_eq_true rfl) ?_
  refine W.eq (g2 := F0 m 4 ls []) rfl ?_
  refine lv_aload_n hx hb dX9_init_4 rfl (lv_at hl 0 rfl) ?_
  refine lv_bipush (v := (9 : Int32)) hx hb dX9_init_5 (by decide) ?_
  refine lv_bipush (v := (9 : Int32)) hx hb dX9_init_7 (by decide) ?_
  refine cn_mna (N := 9) (K := 9) hx hb hown (hts (.classLink RX9 9 "[[I") (by decide +kernel)) (hts (.arrayClass .int) (by decide +kernel)) hE hP hD hS hA (by decide) (by decide) (by decide) (by decide) (by decide) (by decide) (by decide) (Nat.le_of_ble_eq_true rfl) (Nat.le_of_ble_eq_true rfl) dX9_init_9 (fun q9 rf9 H hP hD hS => ?_)
  have hP : va_P D vwCl ([(h0, .inr (9, [.int 0, .int 0, .null, .null, .null])), (q9, .inl (cA 2, 9, .inr (.inr (.inr (.inr (fun i => if i < 9 then some (rf9 i) else none))))))] ++ (cn_rows cA 9 9 rf9 ++ ([] : va_W))) H := hP
  have hD : va_D A ([(h0, .inr (9, [.int 0, .int 0, .null, .null, .null])), (q9, .inl (cA 2, 9, .inr (.inr (.inr (.inr (fun i => if i < 9 then some (rf9 i) else none))))))] ++ (cn_rows cA 9 9 rf9 ++ ([] : va_W))) := hD
  refine va_putF (D := D) (ci := 9) (v := .ref q9) (ty := .array (.array .int)) (C := RX9) (T := TX9) (N := 5) hx hb hts hin9 tyX9 tyX9_ok nmX9 hown hE.1.1 hP hD hS 0 rfl rfl 2 (by decide) (hts (.fieldLink RX9 11 "OrderMover$Span" "rows" "[[I") (by decide +kernel)) (fun _ h9 => h9) rfl hin rfl (by decide +kernel) rfl rfl (Nat.le_of_ble_eq_true rfl) dX9_init_13 (fun H locs hP hD hS => ?_)
  have hP : va_P D vwCl ([(h0, .inr (9, [.int 0, .int 0, .ref q9, .null, .null])), (q9, .inl (cA 2, 9, .inr (.inr (.inr (.inr (fun i => if i < 9 then some (rf9 i) else none))))))] ++ (cn_rows cA 9 9 rf9 ++ ([] : va_W))) H := hP
  have hD : va_D A ([(h0, .inr (9, [.int 0, .int 0, .ref q9, .null, .null])), (q9, .inl (cA 2, 9, .inr (.inr (.inr (.inr (fun i => if i < 9 then some (rf9 i) else none))))))] ++ (cn_rows cA 9 9 rf9 ++ ([] : va_W))) := hD
  refine lv_aload_n hx hb dX9_init_16 rfl (lv_at hl 0 rfl) ?_
  refine lv_bipush (v := (9 : Int32)) hx hb dX9_init_17 (by decide) ?_
  refine lv_bipush (v := (9 : Int32)) hx hb dX9_init_19 (by decide) ?_
  refine cn_mna (N := 9) (K := 9) hx hb hown (hts (.classLink RX9 9 "[[I") (by decide +kernel)) (hts (.arrayClass .int) (by decide +kernel)) hE hP hD hS hA (by decide) (by decide) (by decide) (by decide) (by decide) (by decide) (by decide) (Nat.le_of_ble_eq_true rfl) (Nat.le_of_ble_eq_true rfl) dX9_init_21 (fun q21 rf21 H hP hD hS => ?_)
  have hP : va_P D vwCl ([(h0, .inr (9, [.int 0, .int 0, .ref q9, .null, .null])), (q9, .inl (cA 2, 9, .inr (.inr (.inr (.inr (fun i => if i < 9 then some (rf9 i) else none)))))), (q21, .inl (cA 2, 9, .inr (.inr (.inr (.inr (fun i => if i < 9 then some (rf21 i) else none))))))] ++ (cn_rows cA 9 9 rf21 ++ (cn_rows cA 9 9 rf9 ++ ([] : va_W)))) H := hP
  have hD : va_D A ([(h0, .inr (9, [.int 0, .int 0, .ref q9, .null, .null])), (q9, .inl (cA 2, 9, .inr (.inr (.inr (.inr (fun i => if i < 9 then some (rf9 i) else none)))))), (q21, .inl (cA 2, 9, .inr (.inr (.inr (.inr (fun i => if i < 9 then some (rf21 i) else none))))))] ++ (cn_rows cA 9 9 rf21 ++ (cn_rows cA 9 9 rf9 ++ ([] : va_W)))) := hD
  refine va_putF (D := D) (ci := 9) (v := .ref q21) (ty := .array (.array .int)) (C := RX9) (T := TX9) (N := 5) hx hb hts hin9 tyX9 tyX9_ok nmX9 hown hE.1.1 hP hD hS 0 rfl rfl 3 (by decide) (hts (.fieldLink RX9 16 "OrderMover$Span" "shares" "[[I") (by decide +kernel)) (fun _ h9 => h9) rfl hin rfl (by decide +kernel) rfl rfl (Nat.le_of_ble_eq_true rfl) dX9_init_25 (fun H locs hP hD hS => ?_)
  have hP : va_P D vwCl ([(h0, .inr (9, [.int 0, .int 0, .ref q9, .ref q21, .null])), (q9, .inl (cA 2, 9, .inr (.inr (.inr (.inr (fun i => if i < 9 then some (rf9 i) else none)))))), (q21, .inl (cA 2, 9, .inr (.inr (.inr (.inr (fun i => if i < 9 then some (rf21 i) else none))))))] ++ (cn_rows cA 9 9 rf21 ++ (cn_rows cA 9 9 rf9 ++ ([] : va_W)))) H := hP
  have hD : va_D A ([(h0, .inr (9, [.int 0, .int 0, .ref q9, .ref q21, .null])), (q9, .inl (cA 2, 9, .inr (.inr (.inr (.inr (fun i => if i < 9 then some (rf9 i) else none)))))), (q21, .inl (cA 2, 9, .inr (.inr (.inr (.inr (fun i => if i < 9 then some (rf21 i) else none))))))] ++ (cn_rows cA 9 9 rf21 ++ (cn_rows cA 9 9 rf9 ++ ([] : va_W)))) := hD
  refine lv_aload_n hx hb dX9_init_28 rfl (lv_at hl 0 rfl) ?_
  refine lv_bipush (v := (9 : Int32)) hx hb dX9_init_29 (by decide) ?_
  refine cn_newi (N := 9) hx hb (hts (.arrayClass .int) (by decide +kernel)) hE hP hD hS hA (by decide) (by decide) (by decide) (Nat.le_of_ble_eq_true rfl) (Nat.le_of_ble_eq_true rfl) dX9_init_31 (fun q31 H hP hD hS => ?_)
  have hP : va_P D vwCl ([(h0, .inr (9, [.int 0, .int 0, .ref q9, .ref q21, .null])), (q9, .inl (cA 2, 9, .inr (.inr (.inr (.inr (fun i => if i < 9 then some (rf9 i) else none)))))), (q21, .inl (cA 2, 9, .inr (.inr (.inr (.inr (fun i => if i < 9 then some (rf21 i) else none)))))), (q31, .inl (cA 0, 9, .inl (fun _ => 0)))] ++ (cn_rows cA 9 9 rf21 ++ (cn_rows cA 9 9 rf9 ++ ([] : va_W)))) H := hP
  have hD : va_D A ([(h0, .inr (9, [.int 0, .int 0, .ref q9, .ref q21, .null])), (q9, .inl (cA 2, 9, .inr (.inr (.inr (.inr (fun i => if i < 9 then some (rf9 i) else none)))))), (q21, .inl (cA 2, 9, .inr (.inr (.inr (.inr (fun i => if i < 9 then some (rf21 i) else none)))))), (q31, .inl (cA 0, 9, .inl (fun _ => 0)))] ++ (cn_rows cA 9 9 rf21 ++ (cn_rows cA 9 9 rf9 ++ ([] : va_W)))) := hD
  refine va_putF (D := D) (ci := 9) (v := .ref q31) (ty := .array .int) (C := RX9) (T := TX9) (N := 5) hx hb hts hin9 tyX9 tyX9_ok nmX9 hown hE.1.1 hP hD hS 0 rfl rfl 4 (by decide) (hts (.fieldLink RX9 19 "OrderMover$Span" "pivots" "[I") (by decide +kernel)) (fun _ h9 => h9) rfl hin rfl (by decide +kernel) rfl rfl (Nat.le_of_ble_eq_true rfl) dX9_init_33 (fun H locs hP hD hS => ?_)
  have hP : va_P D vwCl ([(h0, .inr (9, [.int 0, .int 0, .ref q9, .ref q21, .ref q31])), (q9, .inl (cA 2, 9, .inr (.inr (.inr (.inr (fun i => if i < 9 then some (rf9 i) else none)))))), (q21, .inl (cA 2, 9, .inr (.inr (.inr (.inr (fun i => if i < 9 then some (rf21 i) else none)))))), (q31, .inl (cA 0, 9, .inl (fun _ => 0)))] ++ (cn_rows cA 9 9 rf21 ++ (cn_rows cA 9 9 rf9 ++ ([] : va_W)))) H := hP
  have hD : va_D A ([(h0, .inr (9, [.int 0, .int 0, .ref q9, .ref q21, .ref q31])), (q9, .inl (cA 2, 9, .inr (.inr (.inr (.inr (fun i => if i < 9 then some (rf9 i) else none)))))), (q21, .inl (cA 2, 9, .inr (.inr (.inr (.inr (fun i => if i < 9 then some (rf21 i) else none)))))), (q31, .inl (cA 0, 9, .inl (fun _ => 0)))] ++ (cn_rows cA 9 9 rf21 ++ (cn_rows cA 9 9 rf9 ++ ([] : va_W)))) := hD
  have e0 : [(h0, .inr (9, [.int 0, .int 0, .ref q9, .ref q21, .ref q31])), (q9, .inl (cA 2, 9, .inr (.inr (.inr (.inr (fun i => if i < 9 then some (rf9 i) else none)))))), (q21, .inl (cA 2, 9, .inr (.inr (.inr (.inr (fun i => if i < 9 then some (rf21 i) else none)))))), (q31, .inl (cA 0, 9, .inl (fun _ => 0)))] = cn_rl cA [165, 166, 176, 186] (fun q : Nat => if q = 165 then h0 else if q = 166 then q9 else if q = 176 then q21 else if q = 186 then q31 else if 167 ≤ q ∧ q < 176 then rf9 (q - 167) else if 177 ≤ q ∧ q < 186 then rf21 (q - 177) else 0) := by
    refine cn_cons rfl rfl ?_
    refine cn_cons rfl (cn_qq (t0 := 2) (n := 9) (g := fun j => if j < 9 then some (((fun q : Nat => if q = 165 then h0 else if q = 166 then q9 else if q = 176 then q21 else if q = 186 then q31 else if 167 ≤ q ∧ q < 176 then rf9 (q - 167) else if 177 ≤ q ∧ q < 186 then rf21 (q - 177) else 0)) (166 + 1 + j)) else none) rfl (fun j => ?_)) ?_
    · by_cases hj : j < 9
      · rw [if_pos hj, if_pos hj]
        show some (rf9 j) = some (if (166 + 1 + j) = 165 then h0 else if (166 + 1 + j) = 166 then q9 else if (166 + 1 + j) = 176 then q21 else if (166 + 1 + j) = 186 then q31 else if 167 ≤ (166 + 1 + j) ∧ (166 + 1 + j) < 176 then rf9 ((166 + 1 + j) - 167) else if 177 ≤ (166 + 1 + j) ∧ (166 + 1 + j) < 186 then rf21 ((166 + 1 + j) - 177) else 0)
        rw [if_neg (show ¬ 166 + 1 + j = 165 by omega), if_neg (show ¬ 166 + 1 + j = 166 by omega), if_neg (show ¬ 166 + 1 + j = 176 by omega), if_neg (show ¬ 166 + 1 + j = 186 by omega), if_pos (show 167 ≤ 166 + 1 + j ∧ 166 + 1 + j < 176 by omega)]
        rw [show 166 + 1 + j - 167 = j by omega]
      · rw [if_neg hj, if_neg hj]
    refine cn_cons rfl (cn_qq (t0 := 2) (n := 9) (g := fun j => if j < 9 then some (((fun q : Nat => if q = 165 then h0 else if q = 166 then q9 else if q = 176 then q21 else if q = 186 then q31 else if 167 ≤ q ∧ q < 176 then rf9 (q - 167) else if 177 ≤ q ∧ q < 186 then rf21 (q - 177) else 0)) (176 + 1 + j)) else none) rfl (fun j => ?_)) ?_
    · by_cases hj : j < 9
      · rw [if_pos hj, if_pos hj]
        show some (rf21 j) = some (if (176 + 1 + j) = 165 then h0 else if (176 + 1 + j) = 166 then q9 else if (176 + 1 + j) = 176 then q21 else if (176 + 1 + j) = 186 then q31 else if 167 ≤ (176 + 1 + j) ∧ (176 + 1 + j) < 176 then rf9 ((176 + 1 + j) - 167) else if 177 ≤ (176 + 1 + j) ∧ (176 + 1 + j) < 186 then rf21 ((176 + 1 + j) - 177) else 0)
        rw [if_neg (show ¬ 176 + 1 + j = 165 by omega), if_neg (show ¬ 176 + 1 + j = 166 by omega), if_neg (show ¬ 176 + 1 + j = 176 by omega), if_neg (show ¬ 176 + 1 + j = 186 by omega), if_neg (show ¬ (167 ≤ 176 + 1 + j ∧ 176 + 1 + j < 176) by omega), if_pos (show 177 ≤ 176 + 1 + j ∧ 176 + 1 + j < 186 by omega)]
        rw [show 176 + 1 + j - 177 = j by omega]
      · rw [if_neg hj, if_neg hj]
    refine cn_cons rfl rfl ?_
    exact rfl
  have e1 : cn_rows cA 9 9 rf21 = cn_rl cA [177, 178, 179, 180, 181, 182, 183, 184, 185] (fun q : Nat => if q = 165 then h0 else if q = 166 then q9 else if q = 176 then q21 else if q = 186 then q31 else if 167 ≤ q ∧ q < 176 then rf9 (q - 167) else if 177 ≤ q ∧ q < 186 then rf21 (q - 177) else 0) := by
    exact rfl
  have e2 : cn_rows cA 9 9 rf9 = cn_rl cA [167, 168, 169, 170, 171, 172, 173, 174, 175] (fun q : Nat => if q = 165 then h0 else if q = 166 then q9 else if q = 176 then q21 else if q = 186 then q31 else if 167 ≤ q ∧ q < 176 then rf9 (q - 167) else if 177 ≤ q ∧ q < 186 then rf21 (q - 177) else 0) := by
    exact rfl
  have e9 : [(h0, .inr (9, [.int 0, .int 0, .ref q9, .ref q21, .ref q31])), (q9, .inl (cA 2, 9, .inr (.inr (.inr (.inr (fun i => if i < 9 then some (rf9 i) else none)))))), (q21, .inl (cA 2, 9, .inr (.inr (.inr (.inr (fun i => if i < 9 then some (rf21 i) else none)))))), (q31, .inl (cA 0, 9, .inl (fun _ => 0)))] ++ (cn_rows cA 9 9 rf21 ++ (cn_rows cA 9 9 rf9 ++ ([] : va_W))) = cn_rl cA [165, 166, 176, 186, 177, 178, 179, 180, 181, 182, 183, 184, 185, 167, 168, 169, 170, 171, 172, 173, 174, 175] (fun q : Nat => if q = 165 then h0 else if q = 166 then q9 else if q = 176 then q21 else if q = 186 then q31 else if 167 ≤ q ∧ q < 176 then rf9 (q - 167) else if 177 ≤ q ∧ q < 186 then rf21 (q - 177) else 0) := by
    rw [e0, e1, e2]
    exact rfl
  rw [e9] at hP hD
  exact W.vret hx hb hr (fun t ht hW => ⟨⟨(fun q : Nat => if q = 165 then h0 else if q = 166 then q9 else if q = 176 then q21 else if q = 186 then q31 else if 167 ≤ q ∧ q < 176 then rf9 (q - 167) else if 177 ≤ q ∧ q < 186 then rf21 (q - 177) else 0), rfl, rfl, by rw [ht]; exact hP, hD⟩, hS.F ht⟩) hS.2.2 dX9_init_36
set_option maxHeartbeats 4000000 in
set_option maxRecDepth 100000 in
theorem cn_1_199 (l : Launch) (D : va_G) (cA : Nat → ClassId) (h0 sz : Nat) : Met l yX1_init wsX1_init ({ frames := 1, cells := 5, slots := 95, locals := 12 }) (cn_Pc D cA h0 sz (.inr (1, [.int 0, .null, .null, .null, .null, .null])) [.ref h0]) (cn_Qc D cA h0 sz (.inr (1, [.int 0, .null, .null, .null, .null, .null])) 199 [199, 200, 201, 202, 203, 204]) 5 95 (va_A [(h0, .inr (1, [.int 0, .null, .null, .null, .null, .null]))] sz) := by
  refine Met.ofW (cc := cX1_init) (maxL := 1) (ret := none) (by decide) rfl ?_
  intro p e s m args below meth c s₁ B hml hv
  obtain ⟨rfl, hsz, hP, hE, hD0⟩ := hv
  have hx := B.exec
  have hb := B.bytes
  have hr := B.returns
  have hts := atoms_spec (ws := wsX1_init) B.pre
  have hown : s.vm.findClass RX1 = some m.cls := findClass_of_methodNamed B.named
  have hlocks := B.notSynchronized
  have hin : meth.name = "<init>" := (name_of_methodNamed B.named B.method).1
  subst hsz
  have hD := hD0.self (sz := s.heap.size)
  unfold cn_Qc
  generalize hAe : va_A [(h0, .inr (1, [.int 0, .null, .null, .null, .null, .null]))] s.heap.size = A at hD ⊢
  have hA : ∀ q : Nat, s.heap.size ≤ q → A q := fun q h => by rw [← hAe]; exact Or.inr h
  have hS : va_S A s.heap s.heap [] := va_S.rf
  have hP : va_P D vwCl ([(h0, .inr (1, [.int 0, .null, .null, .null, .null, .null]))] ++ ([] : va_W)) s.heap := hP
  have hD : va_D A ([(h0, .inr (1, [.int 0, .null, .null, .null, .null, .null]))] ++ ([] : va_W)) := hD
  have hl := lv_entry ([.ref h0]) (n := 1) (Nat.le_of_ble_eq_true rfl)
  rw [lg_entry_eq]
  generalize (lg_sl ([.ref h0]) ++ List.replicate (1 - (lg_sl ([.ref h0])).length) Slot.unset).toArray = ls at hl ⊢
  have hl : lv_has ls 1 [(0, .ref h0)] := hl
  have hin1 : ∀ w ∈ u_ws RX1 TX1 6, w ∈ wsX1_init := by decide +kernel
  refine lv_aload_n hx hb dX1_init_0 rfl (lv_at hl 0 rfl) ?_
  refine W.objInit hx hb hown (hts (.methodLink RX1 3 objectInit) (by decide +kernel)) (hts (.instanceMethod objectInit) (by decide +kernel)) (hts (.code objectInit ⟨#[0xb1]⟩ 1 none) (by decide +kernel)) rfl (by rw [hml]; exact hl.1) rfl dX1_init_1 (Nat.le_of_ble_eq_true rfl) (Nat.le_of_ble_eq_true rfl) ?_
  refine W.eq (g2 := F0 m 4 ls []) rfl ?_
  refine lv_aload_n hx hb dX1_init_4 rfl (lv_at hl 0 rfl) ?_
  refine lv_bipush (v := (19 : Int32)) hx hb dX1_init_5 (by decide) ?_
  refine cn_newi (N := 19) hx hb (hts (.arrayClass .int) (by decide +kernel)) hE hP hD hS hA (by decide) (by decide) (by decide) (Nat.le_of_ble_eq_true rfl) (Nat.le_of_ble_eq_true rfl) dX1_init_7 (fun q7 H hP hD hS => ?_)
  have hP : va_P D vwCl ([(h0, .inr (1, [.int 0, .null, .null, .null, .null, .null])), (q7, .inl (cA 0, 19, .inl (fun _ => 0)))] ++ ([] : va_W)) H := hP
  have hD : va_D A ([(h0, .inr (1, [.int 0, .null, .null, .null, .null, .null])), (q7, .inl (cA 0, 19, .inl (fun _ => 0)))] ++ ([] : va_W)) := hD
  refine va_putF (D := D) (ci := 1) (v := .ref q7) (ty := .array .int) (C := RX1) (T := TX1) (N := 6) hx hb hts hin1 tyX1 tyX1_ok nmX1 hown hE.1.1 hP hD hS 0 rfl rfl 1 (by decide) (hts (.fieldLink RX1 11 "OrderMover$Border" "xs" "[I") (by decide +kernel)) (fun _ h9 => h9) rfl hin rfl (by decide +kernel) rfl rfl (Nat.le_of_ble_eq_true rfl) dX1_init_9 (fun H locs hP hD hS => ?_)
  have hP : va_P D vwCl ([(h0, .inr (1, [.int 0, .ref q7, .null, .null, .null, .null])), (q7, .inl (cA 0, 19, .inl (fun _ => 0)))] ++ ([] : va_W)) H := hP
  have hD : va_D A ([(h0, .inr (1, [.int 0, .ref q7, .null, .null, .null, .null])), (q7, .inl (cA 0, 19, .inl (fun _ => 0)))] ++ ([] : va_W)) := hD
  refine lv_aload_n hx hb dX1_init_12 rfl (lv_at hl 0 rfl) ?_
  refine lv_bipush (v := (19 : Int32)) hx hb dX1_init_13 (by decide) ?_
  refine cn_newi (N := 19) hx hb (hts (.arrayClass .int) (by decide +kernel)) hE hP hD hS hA (by decide) (by decide) (by decide) (Nat.le_of_ble_eq_true rfl) (Nat.le_of_ble_eq_true rfl) dX1_init_15 (fun q15 H hP hD hS => ?_)
  have hP : va_P D vwCl ([(h0, .inr (1, [.int 0, .ref q7, .null, .null, .null, .null])), (q7, .inl (cA 0, 19, .inl (fun _ => 0))), (q15, .inl (cA 0, 19, .inl (fun _ => 0)))] ++ ([] : va_W)) H := hP
  have hD : va_D A ([(h0, .inr (1, [.int 0, .ref q7, .null, .null, .null, .null])), (q7, .inl (cA 0, 19, .inl (fun _ => 0))), (q15, .inl (cA 0, 19, .inl (fun _ => 0)))] ++ ([] : va_W)) := hD
  refine va_putF (D := D) (ci := 1) (v := .ref q15) (ty := .array .int) (C := RX1) (T := TX1) (N := 6) hx hb hts hin1 tyX1 tyX1_ok nmX1 hown hE.1.1 hP hD hS 0 rfl rfl 2 (by decide) (hts (.fieldLink RX1 15 "OrderMover$Border" "ys" "[I") (by decide +kernel)) (fun _ h9 => h9) rfl hin rfl (by decide +kernel) rfl rfl (Nat.le_of_ble_eq_true rfl) dX1_init_17 (fun H locs hP hD hS => ?_)
  have hP : va_P D vwCl ([(h0, .inr (1, [.int 0, .ref q7, .ref q15, .null, .null, .null])), (q7, .inl (cA 0, 19, .inl (fun _ => 0))), (q15, .inl (cA 0, 19, .inl (fun _ => 0)))] ++ ([] : va_W)) H := hP
  have hD : va_D A ([(h0, .inr (1, [.int 0, .ref q7, .ref q15, .null, .null, .null])), (q7, .inl (cA 0, 19, .inl (fun _ => 0))), (q15, .inl (cA 0, 19, .inl (fun _ => 0)))] ++ ([] : va_W)) := hD
  refine lv_aload_n hx hb dX1_init_20 rfl (lv_at hl 0 rfl) ?_
  refine lv_bipush (v := (19 : Int32)) hx hb dX1_init_21 (by decide) ?_
  refine cn_newi (N := 19) hx hb (hts (.arrayClass .int) (by decide +kernel)) hE hP hD hS hA (by decide) (by decide) (by decide) (Nat.le_of_ble_eq_true rfl) (Nat.le_of_ble_eq_true rfl) dX1_init_23 (fun q23 H hP hD hS => ?_)
  have hP : va_P D vwCl ([(h0, .inr (1, [.int 0, .ref q7, .ref q15, .null, .null, .null])), (q7, .inl (cA 0, 19, .inl (fun _ => 0))), (q15, .inl (cA 0, 19, .inl (fun _ => 0))), (q23, .inl (cA 0, 19, .inl (fun _ => 0)))] ++ ([] : va_W)) H := hP
  have hD : va_D A ([(h0, .inr (1, [.int 0, .ref q7, .ref q15, .null, .null, .null])), (q7, .inl (cA 0, 19, .inl (fun _ => 0))), (q15, .inl (cA 0, 19, .inl (fun _ => 0))), (q23, .inl (cA 0, 19, .inl (fun _ => 0)))] ++ ([] : va_W)) := hD
  refine va_putF (D := D) (ci := 1) (v := .ref q23) (ty := .array .int) (C := RX1) (T := TX1) (N := 6) hx hb hts hin1 tyX1 tyX1_ok nmX1 hown hE.1.1 hP hD hS 0 rfl rfl 3 (by decide) (hts (.fieldLink RX1 18 "OrderMover$Border" "below" "[I") (by decide +kernel)) (fun _ h9 => h9) rfl hin rfl (by decide +kernel) rfl rfl (Nat.le_of_ble_eq_true rfl) dX1_init_25 (fun H locs hP hD hS => ?_)
  have hP : va_P D vwCl ([(h0, .inr (1, [.int 0, .ref q7, .ref q15, .ref q23, .null, .null])), (q7, .inl (cA 0, 19, .inl (fun _ => 0))), (q15, .inl (cA 0, 19, .inl (fun _ => 0))), (q23, .inl (cA 0, 19, .inl (fun _ => 0)))] ++ ([] : va_W)) H := hP
  have hD : va_D A ([(h0, .inr (1, [.int 0, .ref q7, .ref q15, .ref q23, .null, .null])), (q7, .inl (cA 0, 19, .inl (fun _ => 0))), (q15, .inl (cA 0, 19, .inl (fun _ => 0))), (q23, .inl (cA 0, 19, .inl (fun _ => 0)))] ++ ([] : va_W)) := hD
  refine lv_aload_n hx hb dX1_init_28 rfl (lv_at hl 0 rfl) ?_
  refine lv_bipush (v := (19 : Int32)) hx hb dX1_init_29 (by decide) ?_
  refine cn_newi (N := 19) hx hb (hts (.arrayClass .int) (by decide +kernel)) hE hP hD hS hA (by decide) (by decide) (by decide) (Nat.le_of_ble_eq_true rfl) (Nat.le_of_ble_eq_true rfl) dX1_init_31 (fun q31 H hP hD hS => ?_)
  have hP : va_P D vwCl ([(h0, .inr (1, [.int 0, .ref q7, .ref q15, .ref q23, .null, .null])), (q7, .inl (cA 0, 19, .inl (fun _ => 0))), (q15, .inl (cA 0, 19, .inl (fun _ => 0))), (q23, .inl (cA 0, 19, .inl (fun _ => 0))), (q31, .inl (cA 0, 19, .inl (fun _ => 0)))] ++ ([] : va_W)) H := hP
  have hD : va_D A ([(h0, .inr (1, [.int 0, .ref q7, .ref q15, .ref q23, .null, .null])), (q7, .inl (cA 0, 19, .inl (fun _ => 0))), (q15, .inl (cA 0, 19, .inl (fun _ => 0))), (q23, .inl (cA 0, 19, .inl (fun _ => 0))), (q31, .inl (cA 0, 19, .inl (fun _ => 0)))] ++ ([] : va_W)) := hD
  refine va_putF (D := D) (ci := 1) (v := .ref q31) (ty := .array .int) (C := RX1) (T := TX1) (N := 6) hx hb hts hin1 tyX1 tyX1_ok nmX1 hown hE.1.1 hP hD hS 0 rfl rfl 4 (by decide) (hts (.fieldLink RX1 21 "OrderMover$Border" "unknowns" "[I") (by decide +kernel)) (fun _ h9 => h9) rfl hin rfl (by decide +kernel) rfl rfl (Nat.le_of_ble_eq_true rfl) dX1_init_33 (fun H locs hP hD hS => ?_)
  have hP : va_P D vwCl ([(h0, .inr (1, [.int 0, .ref q7, .ref q15, .ref q23, .ref q31, .null])), (q7, .inl (cA 0, 19, .inl (fun _ => 0))), (q15, .inl (cA 0, 19, .inl (fun _ => 0))), (q23, .inl (cA 0, 19, .inl (fun _ => 0))), (q31, .inl (cA 0, 19, .inl (fun _ => 0)))] ++ ([] : va_W)) H := hP
  have hD : va_D A ([(h0, .inr (1, [.int 0, .ref q7, .ref q15, .ref q23, .ref q31, .null])), (q7, .inl (cA 0, 19, .inl (fun _ => 0))), (q15, .inl (cA 0, 19, .inl (fun _ => 0))), (q23, .inl (cA 0, 19, .inl (fun _ => 0))), (q31, .inl (cA 0, 19, .inl (fun _ => 0)))] ++ ([] : va_W)) := hD
  refine lv_aload_n hx hb dX1_init_36 rfl (lv_at hl 0 rfl) ?_
  refine lv_bipush (v := (19 : Int32)) hx hb dX1_init_37 (by decide) ?_
  refine cn_newz (N := 19) hx hb (hts (.arrayClass .boolean) (by decide +kernel)) hE hP hD hS hA (by decide) (by decide) (by decide) (Nat.le_of_ble_eq_true rfl) (Nat.le_of_ble_eq_true rfl) dX1_init_39 (fun q39 H hP hD hS => ?_)
  have hP : va_P D vwCl ([(h0, .inr (1, [.int 0, .ref q7, .ref q15, .ref q23, .ref q31, .null])), (q7, .inl (cA 0, 19, .inl (fun _ => 0))), (q15, .inl (cA 0, 19, .inl (fun _ => 0))), (q23, .inl (cA 0, 19, .inl (fun _ => 0))), (q31, .inl (cA 0, 19, .inl (fun _ => 0))), (q39, .inl (cA 1, 19, .inl (fun _ => 0)))] ++ ([] : va_W)) H := hP
  have hD : va_D A ([(h0, .inr (1, [.int 0, .ref q7, .ref q15, .ref q23, .ref q31, .null])), (q7, .inl (cA 0, 19, .inl (fun _ => 0))), (q15, .inl (cA 0, 19, .inl (fun _ => 0))), (q23, .inl (cA 0, 19, .inl (fun _ => 0))), (q31, .inl (cA 0, 19, .inl (fun _ => 0))), (q39, .inl (cA 1, 19, .inl (fun _ => 0)))] ++ ([] : va_W)) := hD
  refine va_putF (D := D) (ci := 1) (v := .ref q39) (ty := .array .boolean) (C := RX1) (T := TX1) (N := 6) hx hb hts hin1 tyX1 tyX1_ok nmX1 hown hE.1.1 hP hD hS 0 rfl rfl 5 (by decide) (hts (.fieldLink RX1 24 "OrderMover$Border" "passed" "[Z") (by decide +kernel)) (fun _ h9 => h9) rfl hin rfl (by decide +kernel) rfl rfl (Nat.le_of_ble_eq_true rfl) dX1_init_41 (fun H locs hP hD hS => ?_)
  have hP : va_P D vwCl ([(h0, .inr (1, [.int 0, .ref q7, .ref q15, .ref q23, .ref q31, .ref q39])), (q7, .inl (cA 0, 19, .inl (fun _ => 0))), (q15, .inl (cA 0, 19, .inl (fun _ => 0))), (q23, .inl (cA 0, 19, .inl (fun _ => 0))), (q31, .inl (cA 0, 19, .inl (fun _ => 0))), (q39, .inl (cA 1, 19, .inl (fun _ => 0)))] ++ ([] : va_W)) H := hP
  have hD : va_D A ([(h0, .inr (1, [.int 0, .ref q7, .ref q15, .ref q23, .ref q31, .ref q39])), (q7, .inl (cA 0, 19, .inl (fun _ => 0))), (q15, .inl (cA 0, 19, .inl (fun _ => 0))), (q23, .inl (cA 0, 19, .inl (fun _ => 0))), (q31, .inl (cA 0, 19, .inl (fun _ => 0))), (q39, .inl (cA 1, 19, .inl (fun _ => 0)))] ++ ([] : va_W)) := hD
  have e0 : [(h0, .inr (1, [.int 0, .ref q7, .ref q15, .ref q23, .ref q31, .ref q39])), (q7, .inl (cA 0, 19, .inl (fun _ => 0))), (q15, .inl (cA 0, 19, .inl (fun _ => 0))), (q23, .inl (cA 0, 19, .inl (fun _ => 0))), (q31, .inl (cA 0, 19, .inl (fun _ => 0))), (q39, .inl (cA 1, 19, .inl (fun _ => 0)))] = cn_rl cA [199, 200, 201, 202, 203, 204] (fun q : Nat => if q = 199 then h0 else if q = 200 then q7 else if q = 201 then q15 else if q = 202 then q23 else if q = 203 then q31 else if q = 204 then q39 else 0) := by
    refine cn_cons rfl rfl ?_
    refine cn_cons rfl rfl ?_
    refine cn_cons rfl rfl ?_
    refine cn_cons rfl rfl ?_
    refine cn_cons rfl rfl ?_
    refine cn_cons rfl rfl ?_
    exact rfl
  have e9 : [(h0, .inr (1, [.int 0, .ref q7, .ref q15, .ref q23, .ref q31, .ref q39])), (q7, .inl (cA 0, 19, .inl (fun _ => 0))), (q15, .inl (cA 0, 19, .inl (fun _ => 0))), (q23, .inl (cA 0, 19, .inl (fun _ => 0))), (q31, .inl (cA 0, 19, .inl (fun _ => 0))), (q39, .inl (cA 1, 19, .inl (fun _ => 0)))] ++ ([] : va_W) = cn_rl cA [199, 200, 201, 202, 203, 204] (fun q : Nat => if q = 199 then h0 else if q = 200 then q7 else if q = 201 then q15 else if q = 202 then q23 else if q = 203 then q31 else if q = 204 then q39 else 0) := by
    rw [e0]
    exact rfl
  rw [e9] at hP hD
  exact W.vret hx hb hr (fun t ht hW => ⟨⟨(fun q : Nat => if q = 199 then h0 else if q = 200 then q7 else if q = 201 then q15 else if q = 202 then q23 else if q = 203 then q31 else if q = 204 then q39 else 0), rfl, rfl, by rw [ht]; exact hP, hD⟩, hS.F ht⟩) hS.2.2 dX1_init_44
set_option maxHeartbeats 4000000 in
set_option maxRecDepth 100000 in
theorem cn_6_94 (l : Launch) (D : va_G) (cA : Nat → ClassId) (h0 sz : Nat) : Met l yX6_init wsX6_init ({ frames := 1, cells := 38, slots := 369, locals := 12 }) (cn_Pc D cA h0 sz (.inr (6, [.int 0, .int 0, .int 0, .null, .null])) [.ref h0]) (cn_Qc D cA h0 sz (.inr (6, [.int 0, .int 0, .int 0, .null, .null])) 94 [94, 95, 132, 96, 97, 98, 99, 100, 101, 102, 103, 104, 105, 106, 107, 108, 109, 110, 111, 112, 113, 114, 115, 116, 117, 118, 119, 120, 121, 122, 123, 124, 125, 126, 127, 128, 129, 130, 131]) 38 369 (va_A [(h0, .inr (6, [.int 0, .int 0, .int 0, .null, .null]))] sz) := by
  refine Met.ofW (cc := cX6_init) (maxL := 1) (ret := none) (by decide) rfl ?_
  intro p e s m args below meth c s₁ B hml hv
  obtain ⟨rfl, hsz, hP, hE, hD0⟩ := hv
  have hx := B.exec
  have hb := B.bytes
  have hr := B.returns
  have hts := atoms_spec (ws := wsX6_init) B.pre
  have hown : s.vm.findClass RX6 = some m.cls := findClass_of_methodNamed B.named
  have hlocks := B.notSynchronized
  have hin : meth.name = "<init>" := (name_of_methodNamed B.named B.method).1
  subst hsz
  have hD := hD0.self (sz := s.heap.size)
  unfold cn_Qc
  generalize hAe : va_A [(h0, .inr (6, [.int 0, .int 0, .int 0, .null, .null]))] s.heap.size = A at hD ⊢
  have hA : ∀ q : Nat, s.heap.size ≤ q → A q := fun q h => by rw [← hAe]; exact Or.inr h
  have hS : va_S A s.heap s.heap [] := va_S.rf
  have hP : va_P D vwCl ([(h0, .inr (6, [.int 0, .int 0, .int 0, .null, .null]))] ++ ([] : va_W)) s.heap := hP
  have hD : va_D A ([(h0, .inr (6, [.int 0, .int 0, .int 0, .null, .null]))] ++ ([] : va_W)) := hD
  have hl := lv_entry ([.ref h0]) (n := 1) (Nat.le_of_ble_eq_true rfl)
  rw [lg_entry_eq]
  generalize (lg_sl ([.ref h0]) ++ List.replicate (1 - (lg_sl ([.ref h0])).length) Slot.unset).toArray = ls at hl ⊢
  have hl : lv_has ls 1 [(0, .ref h0)] := hl
  have hin6 : ∀ w ∈ u_ws RX6 TX6 5, w ∈ wsX6_init := by decide +kernel
  refine lv_aload_n hx hb dX6_init_0 rfl (lv_at hl 0 rfl) ?_
  refine W.objInit hx hb hown (hts (.methodLink RX6 3 objectInit) (by decide +kernel)) (hts (.instanceMethod objectInit) (by decide +kernel)) (hts (.code objectInit ⟨#[0xb1]⟩ 1 none) (by decide +kernel)) rfl (by rw [hml]; exact hl.1) rfl dX6_init_1 (Nat.le_of_ble_eq_true rfl) (Nat.le_of_ble_eq_true rfl) ?_
  refine W.eq (g2 := F0 m 4 ls []) rfl ?_
  refine lv_aload_n hx hb dX6_init_4 rfl (lv_at hl 0 rfl) ?_
  refine lv_bipush (v := (36 : Int32)) hx hb dX6_init_5 (by decide) ?_
  refine lv_bipush (v := (9 : Int32)) hx hb dX6_init_7 (by decide) ?_
  refine cn_mna (N := 36) (K := 9) hx hb hown (hts (.classLink RX6 11 "[[I") (by decide +kernel)) (hts (.arrayClass .int) (by decide +kernel)) hE hP hD hS hA (by decide) (by decide) (by decide) (by decide) (by decide) (by decide) (by decide) (Nat.le_of_ble_eq_true rfl) (Nat.le_of_ble_eq_true rfl) dX6_init_9 (fun q9 rf9 H hP hD hS => ?_)
  have hP : va_P D vwCl ([(h0, .inr (6, [.int 0, .int 0, .int 0, .null, .null])), (q9, .inl (cA 2, 36, .inr (.inr (.inr (.inr (fun i => if i < 36 then some (rf9 i) else none))))))] ++ (cn_rows cA 36 9 rf9 ++ ([] : va_W))) H := hP
  have hD : va_D A ([(h0, .inr (6, [.int 0, .int 0, .int 0, .null, .null])), (q9, .inl (cA 2, 36, .inr (.inr (.inr (.inr (fun i => if i < 36 then some (rf9 i) else none))))))] ++ (cn_rows cA 36 9 rf9 ++ ([] : va_W))) := hD
  refine va_putF (D := D) (ci := 6) (v := .ref q9) (ty := .array (.array .int)) (C := RX6) (T := TX6) (N := 5) hx hb hts hin6 tyX6 tyX6_ok nmX6 hown hE.1.1 hP hD hS 0 rfl rfl 3 (by decide) (hts (.fieldLink RX6 13 "OrderMover$Quotient" "forms" "[[I") (by decide +kernel)) (fun _ h9 => h9) rfl hin rfl (by decide +kernel) rfl rfl (Nat.le_of_ble_eq_true rfl) dX6_init_13 (fun H locs hP hD hS => ?_)
  have hP : va_P D vwCl ([(h0, .inr (6, [.int 0, .int 0, .int 0, .ref q9, .null])), (q9, .inl (cA 2, 36, .inr (.inr (.inr (.inr (fun i => if i < 36 then some (rf9 i) else none))))))] ++ (cn_rows cA 36 9 rf9 ++ ([] : va_W))) H := hP
  have hD : va_D A ([(h0, .inr (6, [.int 0, .int 0, .int 0, .ref q9, .null])), (q9, .inl (cA 2, 36, .inr (.inr (.inr (.inr (fun i => if i < 36 then some (rf9 i) else none))))))] ++ (cn_rows cA 36 9 rf9 ++ ([] : va_W))) := hD
  refine lv_aload_n hx hb dX6_init_16 rfl (lv_at hl 0 rfl) ?_
  refine lv_bipush (v := (9 : Int32)) hx hb dX6_init_17 (by decide) ?_
  refine cn_newi (N := 9) hx hb (hts (.arrayClass .int) (by decide +kernel)) hE hP hD hS hA (by decide) (by decide) (by decide) (Nat.le_of_ble_eq_true rfl) (Nat.le_of_ble_eq_true rfl) dX6_init_19 (fun q19 H hP hD hS => ?_)
  have hP : va_P D vwCl ([(h0, .inr (6, [.int 0, .int 0, .int 0, .ref q9, .null])), (q9, .inl (cA 2, 36, .inr (.inr (.inr (.inr (fun i => if i < 36 then some (rf9 i) else none)))))), (q19, .inl (cA 0, 9, .inl (fun _ => 0)))] ++ (cn_rows cA 36 9 rf9 ++ ([] : va_W))) H := hP
  have hD : va_D A ([(h0, .inr (6, [.int 0, .int 0, .int 0, .ref q9, .null])), (q9, .inl (cA 2, 36, .inr (.inr (.inr (.inr (fun i => if i < 36 then some (rf9 i) else none)))))), (q19, .inl (cA 0, 9, .inl (fun _ => 0)))] ++ (cn_rows cA 36 9 rf9 ++ ([] : va_W))) := hD
  refine va_putF (D := D) (ci := 6) (v := .ref q19) (ty := .array .int) (C := RX6) (T := TX6) (N := 5) hx hb hts hin6 tyX6 tyX6_ok nmX6 hown hE.1.1 hP hD hS 0 rfl rfl 4 (by decide) (hts (.fieldLink RX6 16 "OrderMover$Quotient" "moved" "[I") (by decide +kernel)) (fun _ h9 => h9) rfl hin rfl (by decide +kernel) rfl rfl (Nat.le_of_ble_eq_true rfl) dX6_init_21 (fun H locs hP hD hS => ?_)
  have hP : va_P D vwCl ([(h0, .inr (6, [.int 0, .int 0, .int 0, .ref q9, .ref q19])), (q9, .inl (cA 2, 36, .inr (.inr (.inr (.inr (fun i => if i < 36 then some (rf9 i) else none)))))), (q19, .inl (cA 0, 9, .inl (fun _ => 0)))] ++ (cn_rows cA 36 9 rf9 ++ ([] : va_W))) H := hP
  have hD : va_D A ([(h0, .inr (6, [.int 0, .int 0, .int 0, .ref q9, .ref q19])), (q9, .inl (cA 2, 36, .inr (.inr (.inr (.inr (fun i => if i < 36 then some (rf9 i) else none)))))), (q19, .inl (cA 0, 9, .inl (fun _ => 0)))] ++ (cn_rows cA 36 9 rf9 ++ ([] : va_W))) := hD
  have e0 : [(h0, .inr (6, [.int 0, .int 0, .int 0, .ref q9, .ref q19])), (q9, .inl (cA 2, 36, .inr (.inr (.inr (.inr (fun i => if i < 36 then some (rf9 i) else none)))))), (q19, .inl (cA 0, 9, .inl (fun _ => 0)))] = cn_rl cA [94, 95, 132] (fun q : Nat => if q = 94 then h0 else if q = 95 then q9 else if q = 132 then q19 else if 96 ≤ q ∧ q < 132 then rf9 (q - 96) else 0) := by
    refine cn_cons rfl rfl ?_
    refine cn_cons rfl (cn_qq (t0 := 2) (n := 36) (g := fun j => if j < 36 then some (((fun q : Nat => if q = 94 then h0 else if q = 95 then q9 else if q = 132 then q19 else if 96 ≤ q ∧ q < 132 then rf9 (q - 96) else 0)) (95 + 1 + j)) else none) rfl (fun j => ?_)) ?_
    · by_cases hj : j < 36
      · rw [if_pos hj, if_pos hj]
        show some (rf9 j) = some (if (95 + 1 + j) = 94 then h0 else if (95 + 1 + j) = 95 then q9 else if (95 + 1 + j) = 132 then q19 else if 96 ≤ (95 + 1 + j) ∧ (95 + 1 + j) < 132 then rf9 ((95 + 1 + j) - 96) else 0)
        rw [if_neg (show ¬ 95 + 1 + j = 94 by omega), if_neg (show ¬ 95 + 1 + j = 95 by omega), if_neg (show ¬ 95 + 1 + j = 132 by omega), if_pos (show 96 ≤ 95 + 1 + j ∧ 95 + 1 + j < 132 by omega)]
        rw [show 95 + 1 + j - 96 = j by omega]
      · rw [if_neg hj, if_neg hj]
    refine cn_cons rfl rfl ?_
    exact rfl
  have e1 : cn_rows cA 36 9 rf9 = cn_rl cA [96, 97, 98, 99, 100, 101, 102, 103, 104, 105, 106, 107, 108, 109, 110, 111, 112, 113, 114, 115, 116, 117, 118, 119, 120, 121, 122, 123, 124, 125, 126, 127, 128, 129, 130, 131] (fun q : Nat => if q = 94 then h0 else if q = 95 then q9 else if q = 132 then q19 else if 96 ≤ q ∧ q < 132 then rf9 (q - 96) else 0) := by
    exact rfl
  have e9 : [(h0, .inr (6, [.int 0, .int 0, .int 0, .ref q9, .ref q19])), (q9, .inl (cA 2, 36, .inr (.inr (.inr (.inr (fun i => if i < 36 then some (rf9 i) else none)))))), (q19, .inl (cA 0, 9, .inl (fun _ => 0)))] ++ (cn_rows cA 36 9 rf9 ++ ([] : va_W)) = cn_rl cA [94, 95, 132, 96, 97, 98, 99, 100, 101, 102, 103, 104, 105, 106, 107, 108, 109, 110, 111, 112, 113, 114, 115, 116, 117, 118, 119, 120, 121, 122, 123, 124, 125, 126, 127, 128, 129, 130, 131] (fun q : Nat => if q = 94 then h0 else if q = 95 then q9 else if q = 132 then q19 else if 96 ≤ q ∧ q < 132 then rf9 (q - 96) else 0) := by
    rw [e0, e1]
    exact rfl
  rw [e9] at hP hD
  exact W.vret hx hb hr (fun t ht hW => ⟨⟨(fun q : Nat => if q = 94 then h0 else if q = 95 then q9 else if q = 132 then q19 else if 96 ≤ q ∧ q < 132 then rf9 (q - 96) else 0), rfl, rfl, by rw [ht]; exact hP, hD⟩, hS.F ht⟩) hS.2.2 dX6_init_24
set_option maxHeartbeats 4000000 in
set_option maxRecDepth 100000 in
theorem cn_3_134 (l : Launch) (D : va_G) (cA : Nat → ClassId) (h0 sz : Nat) : Met l yX3_init wsX3_init ({ frames := 1, cells := 5, slots := 57, locals := 12 }) (cn_Pc D cA h0 sz (.inr (3, [.int 0, .null, .null, .int 0, .null, .null, .null])) [.ref h0]) (cn_Qc D cA h0 sz (.inr (3, [.int 0, .null, .null, .int 0, .null, .null, .null])) 134 [134, 135, 136, 137, 138, 139]) 5 57 (va_A [(h0, .inr (3, [.int 0, .null, .null, .int 0, .null, .null, .null]))] sz) := by
  refine Met.ofW (cc := cX3_init) (maxL := 1) (ret := none) (by decide) rfl ?_
  intro p e s m args below meth c s₁ B hml hv
  obtain ⟨rfl, hsz, hP, hE, hD0⟩ := hv
  have hx := B.exec
  have hb := B.bytes
  have hr := B.returns
  have hts := atoms_spec (ws := wsX3_init) B.pre
  have hown : s.vm.findClass RX3 = some m.cls := findClass_of_methodNamed B.named
  have hlocks := B.notSynchronized
  have hin : meth.name = "<init>" := (name_of_methodNamed B.named B.method).1
  subst hsz
  have hD := hD0.self (sz := s.heap.size)
  unfold cn_Qc
  generalize hAe : va_A [(h0, .inr (3, [.int 0, .null, .null, .int 0, .null, .null, .null]))] s.heap.size = A at hD ⊢
  have hA : ∀ q : Nat, s.heap.size ≤ q → A q := fun q h => by rw [← hAe]; exact Or.inr h
  have hS : va_S A s.heap s.heap [] := va_S.rf
  have hP : va_P D vwCl ([(h0, .inr (3, [.int 0, .null, .null, .int 0, .null, .null, .null]))] ++ ([] : va_W)) s.heap := hP
  have hD : va_D A ([(h0, .inr (3, [.int 0, .null, .null, .int 0, .null, .null, .null]))] ++ ([] : va_W)) := hD
  have hl := lv_entry ([.ref h0]) (n := 1) (Nat.le_of_ble_eq_true rfl)
  rw [lg_entry_eq]
  generalize (lg_sl ([.ref h0]) ++ List.replicate (1 - (lg_sl ([.ref h0])).length) Slot.unset).toArray = ls at hl ⊢
  have hl : lv_has ls 1 [(0, .ref h0)] := hl
  have hin3 : ∀ w ∈ u_ws RX3 TX3 7, w ∈ wsX3_init := by decide +kernel
  refine lv_aload_n hx hb dX3_init_0 rfl (lv_at hl 0 rfl) ?_
  refine W.objInit hx hb hown (hts (.methodLink RX3 3 objectInit) (by decide +kernel)) (hts (.instanceMethod objectInit) (by decide +kernel)) (hts (.code objectInit ⟨#[0xb1]⟩ 1 none) (by decide +kernel)) rfl (by rw [hml]; exact hl.1) rfl dX3_init_1 (Nat.le_of_ble_eq_true rfl) (Nat.le_of_ble_eq_true rfl) ?_
  refine W.eq (g2 := F0 m 4 ls []) rfl ?_
  refine lv_aload_n hx hb dX3_init_4 rfl (lv_at hl 0 rfl) ?_
  refine lv_bipush (v := (10 : Int32)) hx hb dX3_init_5 (by decide) ?_
  refine cn_newi (N := 10) hx hb (hts (.arrayClass .int) (by decide +kernel)) hE hP hD hS hA (by decide) (by decide) (by decide) (Nat.le_of_ble_eq_true rfl) (Nat.le_of_ble_eq_true rfl) dX3_init_7 (fun q7 H hP hD hS => ?_)
  have hP : va_P D vwCl ([(h0, .inr (3, [.int 0, .null, .null, .int 0, .null, .null, .null])), (q7, .inl (cA 0, 10, .inl (fun _ => 0)))] ++ ([] : va_W)) H := hP
  have hD : va_D A ([(h0, .inr (3, [.int 0, .null, .null, .int 0, .null, .null, .null])), (q7, .inl (cA 0, 10, .inl (fun _ => 0)))] ++ ([] : va_W)) := hD
  refine va_putF (D := D) (ci := 3) (v := .ref q7) (ty := .array .int) (C := RX3) (T := TX3) (N := 7) hx hb hts hin3 tyX3 tyX3_ok nmX3 hown hE.1.1 hP hD hS 0 rfl rfl 1 (by decide) (hts (.fieldLink RX3 9 "OrderMover$Least" "numbers" "[I") (by decide +kernel)) (fun _ h9 => h9) rfl hin rfl (by decide +kernel) rfl rfl (Nat.le_of_ble_eq_true rfl) dX3_init_9 (fun H locs hP hD hS => ?_)
  have hP : va_P D vwCl ([(h0, .inr (3, [.int 0, .ref q7, .null, .int 0, .null, .null, .null])), (q7, .inl (cA 0, 10, .inl (fun _ => 0)))] ++ ([] : va_W)) H := hP
  have hD : va_D A ([(h0, .inr (3, [.int 0, .ref q7, .null, .int 0, .null, .null, .null])), (q7, .inl (cA 0, 10, .inl (fun _ => 0)))] ++ ([] : va_W)) := hD
  refine lv_aload_n hx hb dX3_init_12 rfl (lv_at hl 0 rfl) ?_
  refine lv_bipush (v := (9 : Int32)) hx hb dX3_init_13 (by decide) ?_
  refine cn_newi (N := 9) hx hb (hts (.arrayClass .int) (by decide +kernel)) hE hP hD hS hA (by decide) (by decide) (by decide) (Nat.le_of_ble_eq_true rfl) (Nat.le_of_ble_eq_true rfl) dX3_init_15 (fun q15 H hP hD hS => ?_)
  have hP : va_P D vwCl ([(h0, .inr (3, [.int 0, .ref q7, .null, .int 0, .null, .null, .null])), (q7, .inl (cA 0, 10, .inl (fun _ => 0))), (q15, .inl (cA 0, 9, .inl (fun _ => 0)))] ++ ([] : va_W)) H := hP
  have hD : va_D A ([(h0, .inr (3, [.int 0, .ref q7, .null, .int 0, .null, .null, .null])), (q7, .inl (cA 0, 10, .inl (fun _ => 0))), (q15, .inl (cA 0, 9, .inl (fun _ => 0)))] ++ ([] : va_W)) := hD
  refine va_putF (D := D) (ci := 3) (v := .ref q15) (ty := .array .int) (C := RX3) (T := TX3) (N := 7) hx hb hts hin3 tyX3 tyX3_ok nmX3 hown hE.1.1 hP hD hS 0 rfl rfl 2 (by decide) (hts (.fieldLink RX3 15 "OrderMover$Least" "raised" "[I") (by decide +kernel)) (fun _ h9 => h9) rfl hin rfl (by decide +kernel) rfl rfl (Nat.le_of_ble_eq_true rfl) dX3_init_17 (fun H locs hP hD hS => ?_)
  have hP : va_P D vwCl ([(h0, .inr (3, [.int 0, .ref q7, .ref q15, .int 0, .null, .null, .null])), (q7, .inl (cA 0, 10, .inl (fun _ => 0))), (q15, .inl (cA 0, 9, .inl (fun _ => 0)))] ++ ([] : va_W)) H := hP
  have hD : va_D A ([(h0, .inr (3, [.int 0, .ref q7, .ref q15, .int 0, .null, .null, .null])), (q7, .inl (cA 0, 10, .inl (fun _ => 0))), (q15, .inl (cA 0, 9, .inl (fun _ => 0)))] ++ ([] : va_W)) := hD
  refine lv_aload_n hx hb dX3_init_20 rfl (lv_at hl 0 rfl) ?_
  refine lv_bipush (v := (18 : Int32)) hx hb dX3_init_21 (by decide) ?_
  refine cn_newi (N := 18) hx hb (hts (.arrayClass .int) (by decide +kernel)) hE hP hD hS hA (by decide) (by decide) (by decide) (Nat.le_of_ble_eq_true rfl) (Nat.le_of_ble_eq_true rfl) dX3_init_23 (fun q23 H hP hD hS => ?_)
  have hP : va_P D vwCl ([(h0, .inr (3, [.int 0, .ref q7, .ref q15, .int 0, .null, .null, .null])), (q7, .inl (cA 0, 10, .inl (fun _ => 0))), (q15, .inl (cA 0, 9, .inl (fun _ => 0))), (q23, .inl (cA 0, 18, .inl (fun _ => 0)))] ++ ([] : va_W)) H := hP
  have hD : va_D A ([(h0, .inr (3, [.int 0, .ref q7, .ref q15, .int 0, .null, .null, .null])), (q7, .inl (cA 0, 10, .inl (fun _ => 0))), (q15, .inl (cA 0, 9, .inl (fun _ => 0))), (q23, .inl (cA 0, 18, .inl (fun _ => 0)))] ++ ([] : va_W)) := hD
  refine va_putF (D := D) (ci := 3) (v := .ref q23) (ty := .array .int) (C := RX3) (T := TX3) (N := 7) hx hb hts hin3 tyX3 tyX3_ok nmX3 hown hE.1.1 hP hD hS 0 rfl rfl 4 (by decide) (hts (.fieldLink RX3 18 "OrderMover$Least" "square" "[I") (by decide +kernel)) (fun _ h9 => h9) rfl hin rfl (by decide +kernel) rfl rfl (Nat.le_of_ble_eq_true rfl) dX3_init_25 (fun H locs hP hD hS => ?_)
  have hP : va_P D vwCl ([(h0, .inr (3, [.int 0, .ref q7, .ref q15, .int 0, .ref q23, .null, .null])), (q7, .inl (cA 0, 10, .inl (fun _ => 0))), (q15, .inl (cA 0, 9, .inl (fun _ => 0))), (q23, .inl (cA 0, 18, .inl (fun _ => 0)))] ++ ([] : va_W)) H := hP
  have hD : va_D A ([(h0, .inr (3, [.int 0, .ref q7, .ref q15, .int 0, .ref q23, .null, .null])), (q7, .inl (cA 0, 10, .inl (fun _ => 0))), (q15, .inl (cA 0, 9, .inl (fun _ => 0))), (q23, .inl (cA 0, 18, .inl (fun _ => 0)))] ++ ([] : va_W)) := hD
  refine lv_aload_n hx hb dX3_init_28 rfl (lv_at hl 0 rfl) ?_
  refine lv_bipush (v := (10 : Int32)) hx hb dX3_init_29 (by decide) ?_
  refine cn_newi (N := 10) hx hb (hts (.arrayClass .int) (by decide +kernel)) hE hP hD hS hA (by decide) (by decide) (by decide) (Nat.le_of_ble_eq_true rfl) (Nat.le_of_ble_eq_true rfl) dX3_init_31 (fun q31 H hP hD hS => ?_)
  have hP : va_P D vwCl ([(h0, .inr (3, [.int 0, .ref q7, .ref q15, .int 0, .ref q23, .null, .null])), (q7, .inl (cA 0, 10, .inl (fun _ => 0))), (q15, .inl (cA 0, 9, .inl (fun _ => 0))), (q23, .inl (cA 0, 18, .inl (fun _ => 0))), (q31, .inl (cA 0, 10, .inl (fun _ => 0)))] ++ ([] : va_W)) H := hP
  have hD : va_D A ([(h0, .inr (3, [.int 0, .ref q7, .ref q15, .int 0, .ref q23, .null, .null])), (q7, .inl (cA 0, 10, .inl (fun _ => 0))), (q15, .inl (cA 0, 9, .inl (fun _ => 0))), (q23, .inl (cA 0, 18, .inl (fun _ => 0))), (q31, .inl (cA 0, 10, .inl (fun _ => 0)))] ++ ([] : va_W)) := hD
  refine va_putF (D := D) (ci := 3) (v := .ref q31) (ty := .array .int) (C := RX3) (T := TX3) (N := 7) hx hb hts hin3 tyX3 tyX3_ok nmX3 hown hE.1.1 hP hD hS 0 rfl rfl 5 (by decide) (hts (.fieldLink RX3 21 "OrderMover$Least" "one" "[I") (by decide +kernel)) (fun _ h9 => h9) rfl hin rfl (by decide +kernel) rfl rfl (Nat.le_of_ble_eq_true rfl) dX3_init_33 (fun H locs hP hD hS => ?_)
  have hP : va_P D vwCl ([(h0, .inr (3, [.int 0, .ref q7, .ref q15, .int 0, .ref q23, .ref q31, .null])), (q7, .inl (cA 0, 10, .inl (fun _ => 0))), (q15, .inl (cA 0, 9, .inl (fun _ => 0))), (q23, .inl (cA 0, 18, .inl (fun _ => 0))), (q31, .inl (cA 0, 10, .inl (fun _ => 0)))] ++ ([] : va_W)) H := hP
  have hD : va_D A ([(h0, .inr (3, [.int 0, .ref q7, .ref q15, .int 0, .ref q23, .ref q31, .null])), (q7, .inl (cA 0, 10, .inl (fun _ => 0))), (q15, .inl (cA 0, 9, .inl (fun _ => 0))), (q23, .inl (cA 0, 18, .inl (fun _ => 0))), (q31, .inl (cA 0, 10, .inl (fun _ => 0)))] ++ ([] : va_W)) := hD
  refine lv_aload_n hx hb dX3_init_36 rfl (lv_at hl 0 rfl) ?_
  refine lv_bipush (v := (10 : Int32)) hx hb dX3_init_37 (by decide) ?_
  refine cn_newi (N := 10) hx hb (hts (.arrayClass .int) (by decide +kernel)) hE hP hD hS hA (by decide) (by decide) (by decide) (Nat.le_of_ble_eq_true rfl) (Nat.le_of_ble_eq_true rfl) dX3_init_39 (fun q39 H hP hD hS => ?_)
  have hP : va_P D vwCl ([(h0, .inr (3, [.int 0, .ref q7, .ref q15, .int 0, .ref q23, .ref q31, .null])), (q7, .inl (cA 0, 10, .inl (fun _ => 0))), (q15, .inl (cA 0, 9, .inl (fun _ => 0))), (q23, .inl (cA 0, 18, .inl (fun _ => 0))), (q31, .inl (cA 0, 10, .inl (fun _ => 0))), (q39, .inl (cA 0, 10, .inl (fun _ => 0)))] ++ ([] : va_W)) H := hP
  have hD : va_D A ([(h0, .inr (3, [.int 0, .ref q7, .ref q15, .int 0, .ref q23, .ref q31, .null])), (q7, .inl (cA 0, 10, .inl (fun _ => 0))), (q15, .inl (cA 0, 9, .inl (fun _ => 0))), (q23, .inl (cA 0, 18, .inl (fun _ => 0))), (q31, .inl (cA 0, 10, .inl (fun _ => 0))), (q39, .inl (cA 0, 10, .inl (fun _ => 0)))] ++ ([] : va_W)) := hD
  refine va_putF (D := D) (ci := 3) (v := .ref q39) (ty := .array .int) (C := RX3) (T := TX3) (N := 7) hx hb hts hin3 tyX3 tyX3_ok nmX3 hown hE.1.1 hP hD hS 0 rfl rfl 6 (by decide) (hts (.fieldLink RX3 24 "OrderMover$Least" "other" "[I") (by decide +kernel)) (fun _ h9 => h9) rfl hin rfl (by decide +kernel) rfl rfl (Nat.le_of_ble_eq_true rfl) dX3_init_41 (fun H locs hP hD hS => ?_)
  have hP : va_P D vwCl ([(h0, .inr (3, [.int 0, .ref q7, .ref q15, .int 0, .ref q23, .ref q31, .ref q39])), (q7, .inl (cA 0, 10, .inl (fun _ => 0))), (q15, .inl (cA 0, 9, .inl (fun _ => 0))), (q23, .inl (cA 0, 18, .inl (fun _ => 0))), (q31, .inl (cA 0, 10, .inl (fun _ => 0))), (q39, .inl (cA 0, 10, .inl (fun _ => 0)))] ++ ([] : va_W)) H := hP
  have hD : va_D A ([(h0, .inr (3, [.int 0, .ref q7, .ref q15, .int 0, .ref q23, .ref q31, .ref q39])), (q7, .inl (cA 0, 10, .inl (fun _ => 0))), (q15, .inl (cA 0, 9, .inl (fun _ => 0))), (q23, .inl (cA 0, 18, .inl (fun _ => 0))), (q31, .inl (cA 0, 10, .inl (fun _ => 0))), (q39, .inl (cA 0, 10, .inl (fun _ => 0)))] ++ ([] : va_W)) := hD
  have e0 : [(h0, .inr (3, [.int 0, .ref q7, .ref q15, .int 0, .ref q23, .ref q31, .ref q39])), (q7, .inl (cA 0, 10, .inl (fun _ => 0))), (q15, .inl (cA 0, 9, .inl (fun _ => 0))), (q23, .inl (cA 0, 18, .inl (fun _ => 0))), (q31, .inl (cA 0, 10, .inl (fun _ => 0))), (q39, .inl (cA 0, 10, .inl (fun _ => 0)))] = cn_rl cA [134, 135, 136, 137, 138, 139] (fun q : Nat => if q = 134 then h0 else if q = 135 then q7 else if q = 136 then q15 else if q = 137 then q23 else if q = 138 then q31 else if q = 139 then q39 else 0) := by
    refine cn_cons rfl rfl ?_
    refine cn_cons rfl rfl ?_
    refine cn_cons rfl rfl ?_
    refine cn_cons rfl rfl ?_
    refine cn_cons rfl rfl ?_
    refine cn_cons rfl rfl ?_
    exact rfl
  have e9 : [(h0, .inr (3, [.int 0, .ref q7, .ref q15, .int 0, .ref q23, .ref q31, .ref q39])), (q7, .inl (cA 0, 10, .inl (fun _ => 0))), (q15, .inl (cA 0, 9, .inl (fun _ => 0))), (q23, .inl (cA 0, 18, .inl (fun _ => 0))), (q31, .inl (cA 0, 10, .inl (fun _ => 0))), (q39, .inl (cA 0, 10, .inl (fun _ => 0)))] ++ ([] : va_W) = cn_rl cA [134, 135, 136, 137, 138, 139] (fun q : Nat => if q = 134 then h0 else if q = 135 then q7 else if q = 136 then q15 else if q = 137 then q23 else if q = 138 then q31 else if q = 139 then q39 else 0) := by
    rw [e0]
    exact rfl
  rw [e9] at hP hD
  exact W.vret hx hb hr (fun t ht hW => ⟨⟨(fun q : Nat => if q = 134 then h0 else if q = 135 then q7 else if q = 136 then q15 else if q = 137 then q23 else if q = 138 then q31 else if q = 139 then q39 else 0), rfl, rfl, by rw [ht]; exact hP, hD⟩, hS.F ht⟩) hS.2.2 dX3_init_44
set_option maxHeartbeats 4000000 in
set_option maxRecDepth 100000 in
theorem cn_7_1 (l : Launch) (D : va_G) (cA : Nat → ClassId) (h0 sz : Nat) : Met l yX7_init wsX7_init ({ frames := 1, cells := 2, slots := 18, locals := 12 }) (cn_Pc D cA h0 sz (.inr (7, [.int 0, .int 0, .int 0, .int 0, .int 0, .null, .null])) [.ref h0]) (cn_Qc D cA h0 sz (.inr (7, [.int 0, .int 0, .int 0, .int 0, .int 0, .null, .null])) 1 [1, 2, 3]) 2 18 (va_A [(h0, .inr (7, [.int 0, .int 0, .int 0, .int 0, .int 0, .null, .null]))] sz) := by
  refine Met.ofW (cc := cX7_init) (maxL := 1) (ret := none) (by decide) rfl ?_
  intro p e s m args below meth c s₁ B hml hv
  obtain ⟨rfl, hsz, hP, hE, hD0⟩ := hv
  have hx := B.exec
  have hb := B.bytes
  have hr := B.returns
  have hts := atoms_spec (ws := wsX7_init) B.pre
  have hown : s.vm.findClass RX7 = some m.cls := findClass_of_methodNamed B.named
  have hlocks := B.notSynchronized
  have hin : meth.name = "<init>" := (name_of_methodNamed B.named B.method).1
  subst hsz
  have hD := hD0.self (sz := s.heap.size)
  unfold cn_Qc
  generalize hAe : va_A [(h0, .inr (7, [.int 0, .int 0, .int 0, .int 0, .int 0, .null, .null]))] s.heap.size = A at hD ⊢
  have hA : ∀ q : Nat, s.heap.size ≤ q → A q := fun q h => by rw [← hAe]; exact Or.inr h
  have hS : va_S A s.heap s.heap [] := va_S.rf
  have hP : va_P D vwCl ([(h0, .inr (7, [.int 0, .int 0, .int 0, .int 0, .int 0, .null, .null]))] ++ ([] : va_W)) s.heap := hP
  have hD : va_D A ([(h0, .inr (7, [.int 0, .int 0, .int 0, .int 0, .int 0, .null, .null]))] ++ ([] : va_W)) := hD
  have hl := lv_entry ([.ref h0]) (n := 1) (Nat.le_of_ble_eq_true rfl)
  rw [lg_entry_eq]
  generalize (lg_sl ([.ref h0]) ++ List.replicate (1 - (lg_sl ([.ref h0])).length) Slot.unset).toArray = ls at hl ⊢
  have hl : lv_has ls 1 [(0, .ref h0)] := hl
  have hin7 : ∀ w ∈ u_ws RX7 TX7 7, w ∈ wsX7_init := by decide +kernel
  refine lv_aload_n hx hb dX7_init_0 rfl (lv_at hl 0 rfl) ?_
  refine W.objInit hx hb hown (hts (.methodLink RX7 3 objectInit) (by decide +kernel)) (hts (.instanceMethod objectInit) (by decide +kernel)) (hts (.code objectInit ⟨#[0xb1]⟩ 1 none) (by decide +kernel)) rfl (by rw [hml]; exact hl.1) rfl dX7_init_1 (Nat.le_of_ble_eq_true rfl) (Nat.le_of_ble_eq_true rfl) ?_
  refine W.eq (g2 := F0 m 4 ls []) rfl ?_
  refine lv_aload_n hx hb dX7_init_4 rfl (lv_at hl 0 rfl) ?_
  refine lv_bipush (v := (7 : Int32)) hx hb dX7_init_5 (by decide) ?_
  refine va_put (D := D) (ci := 7) (v := .int (7 : Int32)) (ty := .int) (C := RX7) (T := TX7) (N := 7) hx hb hts hin7 tyX7 tyX7_ok nmX7 hown hE.1.1 hP hD hS 0 rfl rfl 0 (by decide) (hts (.fieldLink RX7 9 "OrderMover$Setting" "p" "I") (by decide +kernel)) (fun _ h9 => h9) rfl  (by decide +kernel) rfl rfl (Nat.le_of_ble_eq_true rfl) dX7_init_7 (fun H locs hP hD hS => ?_)
  have hP : va_P D vwCl ([(h0, .inr (7, [.int (7 : Int32), .int 0, .int 0, .int 0, .int 0, .null, .null]))] ++ ([] : va_W)) H := hP
  have hD : va_D A ([(h0, .inr (7, [.int (7 : Int32), .int 0, .int 0, .int 0, .int 0, .null, .null]))] ++ ([] : va_W)) := hD
  refine lv_aload_n hx hb dX7_init_10 rfl (lv_at hl 0 rfl) ?_
  refine lv_iconst (v := (2 : Int32)) hx hb dX7_init_11 (by decide) ?_
  refine va_put (D := D) (ci := 7) (v := .int (2 : Int32)) (ty := .int) (C := RX7) (T := TX7) (N := 7) hx hb hts hin7 tyX7 tyX7_ok nmX7 hown hE.1.1 hP hD hS 0 rfl rfl 1 (by decide) (hts (.fieldLink RX7 15 "OrderMover$Setting" "a" "I") (by decide +kernel)) (fun _ h9 => h9) rfl  (by decide +kernel) rfl rfl (Nat.le_of_ble_eq_true rfl) dX7_init_12 (fun H locs hP hD hS => ?_)
  have hP : va_P D vwCl ([(h0, .inr (7, [.int (7 : Int32), .int (2 : Int32), .int 0, .int 0, .int 0, .null, .null]))] ++ ([] : va_W)) H := hP
  have hD : va_D A ([(h0, .inr (7, [.int (7 : Int32), .int (2 : Int32), .int 0, .int 0, .int 0, .null, .null]))] ++ ([] : va_W)) := hD
  refine lv_aload_n hx hb dX7_init_15 rfl (lv_at hl 0 rfl) ?_
  refine lv_iconst (v := (2 : Int32)) hx hb dX7_init_16 (by decide) ?_
  refine va_put (D := D) (ci := 7) (v := .int (2 : Int32)) (ty := .int) (C := RX7) (T := TX7) (N := 7) hx hb hts hin7 tyX7 tyX7_ok nmX7 hown hE.1.1 hP hD hS 0 rfl rfl 2 (by decide) (hts (.fieldLink RX7 18 "OrderMover$Setting" "b" "I") (by decide +kernel)) (fun _ h9 => h9) rfl  (by decide +kernel) rfl rfl (Nat.le_of_ble_eq_true rfl) dX7_init_17 (fun H locs hP hD hS => ?_)
  have hP : va_P D vwCl ([(h0, .inr (7, [.int (7 : Int32), .int (2 : Int32), .int (2 : Int32), .int 0, .int 0, .null, .null]))] ++ ([] : va_W)) H := hP
  have hD : va_D A ([(h0, .inr (7, [.int (7 : Int32), .int (2 : Int32), .int (2 : Int32), .int 0, .int 0, .null, .null]))] ++ ([] : va_W)) := hD
  refine lv_aload_n hx hb dX7_init_20 rfl (lv_at hl 0 rfl) ?_
  refine lv_iconst (v := (1 : Int32)) hx hb dX7_init_21 (by decide) ?_
  refine va_put (D := D) (ci := 7) (v := .int (1 : Int32)) (ty := .int) (C := RX7) (T := TX7) (N := 7) hx hb hts hin7 tyX7 tyX7_ok nmX7 hown hE.1.1 hP hD hS 0 rfl rfl 3 (by decide) (hts (.fieldLink RX7 21 "OrderMover$Setting" "u" "I") (by decide +kernel)) (fun _ h9 => h9) rfl  (by decide +kernel) rfl rfl (Nat.le_of_ble_eq_true rfl) dX7_init_22 (fun H locs hP hD hS => ?_)
  have hP : va_P D vwCl ([(h0, .inr (7, [.int (7 : Int32), .int (2 : Int32), .int (2 : Int32), .int (1 : Int32), .int 0, .null, .null]))] ++ ([] : va_W)) H := hP
  have hD : va_D A ([(h0, .inr (7, [.int (7 : Int32), .int (2 : Int32), .int (2 : Int32), .int (1 : Int32), .int 0, .null, .null]))] ++ ([] : va_W)) := hD
  refine lv_aload_n hx hb dX7_init_25 rfl (lv_at hl 0 rfl) ?_
  refine lv_iconst (v := (2 : Int32)) hx hb dX7_init_26 (by decide) ?_
  refine va_put (D := D) (ci := 7) (v := .int (2 : Int32)) (ty := .int) (C := RX7) (T := TX7) (N := 7) hx hb hts hin7 tyX7 tyX7_ok nmX7 hown hE.1.1 hP hD hS 0 rfl rfl 4 (by decide) (hts (.fieldLink RX7 24 "OrderMover$Setting" "v" "I") (by decide +kernel)) (fun _ h9 => h9) rfl  (by decide +kernel) rfl rfl (Nat.le_of_ble_eq_true rfl) dX7_init_27 (fun H locs hP hD hS => ?_)
  have hP : va_P D vwCl ([(h0, .inr (7, [.int (7 : Int32), .int (2 : Int32), .int (2 : Int32), .int (1 : Int32), .int (2 : Int32), .null, .null]))] ++ ([] : va_W)) H := hP
  have hD : va_D A ([(h0, .inr (7, [.int (7 : Int32), .int (2 : Int32), .int (2 : Int32), .int (1 : Int32), .int (2 : Int32), .null, .null]))] ++ ([] : va_W)) := hD
  refine lv_aload_n hx hb dX7_init_30 rfl (lv_at hl 0 rfl) ?_
  refine lv_bipush (v := (9 : Int32)) hx hb dX7_init_31 (by decide) ?_
  refine cn_newi (N := 9) hx hb (hts (.arrayClass .int) (by decide +kernel)) hE hP hD hS hA (by decide) (by decide) (by decide) (Nat.le_of_ble_eq_true rfl) (Nat.le_of_ble_eq_true rfl) dX7_init_33 (fun q33 H hP hD hS => ?_)
  have hP : va_P D vwCl ([(h0, .inr (7, [.int (7 : Int32), .int (2 : Int32), .int (2 : Int32), .int (1 : Int32), .int (2 : Int32), .null, .null])), (q33, .inl (cA 0, 9, .inl (fun _ => 0)))] ++ ([] : va_W)) H := hP
  have hD : va_D A ([(h0, .inr (7, [.int (7 : Int32), .int (2 : Int32), .int (2 : Int32), .int (1 : Int32), .int (2 : Int32), .null, .null])), (q33, .inl (cA 0, 9, .inl (fun _ => 0)))] ++ ([] : va_W)) := hD
  refine va_putF (D := D) (ci := 7) (v := .ref q33) (ty := .array .int) (C := RX7) (T := TX7) (N := 7) hx hb hts hin7 tyX7 tyX7_ok nmX7 hown hE.1.1 hP hD hS 0 rfl rfl 5 (by decide) (hts (.fieldLink RX7 27 "OrderMover$Setting" "first" "[I") (by decide +kernel)) (fun _ h9 => h9) rfl hin rfl (by decide +kernel) rfl rfl (Nat.le_of_ble_eq_true rfl) dX7_init_35 (fun H locs hP hD hS => ?_)
  have hP : va_P D vwCl ([(h0, .inr (7, [.int (7 : Int32), .int (2 : Int32), .int (2 : Int32), .int (1 : Int32), .int (2 : Int32), .ref q33, .null])), (q33, .inl (cA 0, 9, .inl (fun _ => 0)))] ++ ([] : va_W)) H := hP
  have hD : va_D A ([(h0, .inr (7, [.int (7 : Int32), .int (2 : Int32), .int (2 : Int32), .int (1 : Int32), .int (2 : Int32), .ref q33, .null])), (q33, .inl (cA 0, 9, .inl (fun _ => 0)))] ++ ([] : va_W)) := hD
  refine lv_aload_n hx hb dX7_init_38 rfl (lv_at hl 0 rfl) ?_
  refine lv_bipush (v := (9 : Int32)) hx hb dX7_init_39 (by decide) ?_
  refine cn_newi (N := 9) hx hb (hts (.arrayClass .int) (by decide +kernel)) hE hP hD hS hA (by decide) (by decide) (by decide) (Nat.le_of_ble_eq_true rfl) (Nat.le_of_ble_eq_true rfl) dX7_init_41 (fun q41 H hP hD hS => ?_)
  have hP : va_P D vwCl ([(h0, .inr (7, [.int (7 : Int32), .int (2 : Int32), .int (2 : Int32), .int (1 : Int32), .int (2 : Int32), .ref q33, .null])), (q33, .inl (cA 0, 9, .inl (fun _ => 0))), (q41, .inl (cA 0, 9, .inl (fun _ => 0)))] ++ ([] : va_W)) H := hP
  have hD : va_D A ([(h0, .inr (7, [.int (7 : Int32), .int (2 : Int32), .int (2 : Int32), .int (1 : Int32), .int (2 : Int32), .ref q33, .null])), (q33, .inl (cA 0, 9, .inl (fun _ => 0))), (q41, .inl (cA 0, 9, .inl (fun _ => 0)))] ++ ([] : va_W)) := hD
  refine va_putF (D := D) (ci := 7) (v := .ref q41) (ty := .array .int) (C := RX7) (T := TX7) (N := 7) hx hb hts hin7 tyX7 tyX7_ok nmX7 hown hE.1.1 hP hD hS 0 rfl rfl 6 (by decide) (hts (.fieldLink RX7 31 "OrderMover$Setting" "second" "[I") (by decide +kernel)) (fun _ h9 => h9) rfl hin rfl (by decide +kernel) rfl rfl (Nat.le_of_ble_eq_true rfl) dX7_init_43 (fun H locs hP hD hS => ?_)
  have hP : va_P D vwCl ([(h0, .inr (7, [.int (7 : Int32), .int (2 : Int32), .int (2 : Int32), .int (1 : Int32), .int (2 : Int32), .ref q33, .ref q41])), (q33, .inl (cA 0, 9, .inl (fun _ => 0))), (q41, .inl (cA 0, 9, .inl (fun _ => 0)))] ++ ([] : va_W)) H := hP
  have hD : va_D A ([(h0, .inr (7, [.int (7 : Int32), .int (2 : Int32), .int (2 : Int32), .int (1 : Int32), .int (2 : Int32), .ref q33, .ref q41])), (q33, .inl (cA 0, 9, .inl (fun _ => 0))), (q41, .inl (cA 0, 9, .inl (fun _ => 0)))] ++ ([] : va_W)) := hD
  have e0 : [(h0, .inr (7, [.int (7 : Int32), .int (2 : Int32), .int (2 : Int32), .int (1 : Int32), .int (2 : Int32), .ref q33, .ref q41])), (q33, .inl (cA 0, 9, .inl (fun _ => 0))), (q41, .inl (cA 0, 9, .inl (fun _ => 0)))] = cn_rl cA [1, 2, 3] (fun q : Nat => if q = 1 then h0 else if q = 2 then q33 else if q = 3 then q41 else 0) := by
    refine cn_cons rfl rfl ?_
    refine cn_cons rfl rfl ?_
    refine cn_cons rfl rfl ?_
    exact rfl
  have e9 : [(h0, .inr (7, [.int (7 : Int32), .int (2 : Int32), .int (2 : Int32), .int (1 : Int32), .int (2 : Int32), .ref q33, .ref q41])), (q33, .inl (cA 0, 9, .inl (fun _ => 0))), (q41, .inl (cA 0, 9, .inl (fun _ => 0)))] ++ ([] : va_W) = cn_rl cA [1, 2, 3] (fun q : Nat => if q = 1 then h0 else if q = 2 then q33 else if q = 3 then q41 else 0) := by
    rw [e0]
    exact rfl
  rw [e9] at hP hD
  exact W.vret hx hb hr (fun t ht hW => ⟨⟨(fun q : Nat => if q = 1 then h0 else if q = 2 then q33 else if q = 3 then q41 else 0), rfl, rfl, by rw [ht]; exact hP, hD⟩, hS.F ht⟩) hS.2.2 dX7_init_46
set_option maxHeartbeats 4000000 in
set_option maxRecDepth 100000 in
theorem cn_5_14 (l : Launch) (D : va_G) (cA : Nat → ClassId) (h0 sz : Nat) : Met l yX5_init wsX5_init ({ frames := 1, cells := 3, slots := 24, locals := 27 }) (cn_Pc D cA h0 sz (.inr (5, [.int 0, .null, .null, .null])) [.ref h0, .int (8 : Int32)]) (cn_Qc D cA h0 sz (.inr (5, [.int 0, .null, .null, .null])) 14 [14, 15, 16, 17]) 3 24 (va_A [(h0, .inr (5, [.int 0, .null, .null, .null]))] sz) := by
  refine Met.ofW (cc := cX5_init) (maxL := 3) (ret := none) (by decide) rfl ?_
  intro p e s m args below meth c s₁ B hml hv
  obtain ⟨rfl, hsz, hP, hE, hD0⟩ := hv
  have hx := B.exec
  have hb := B.bytes
  have hr := B.returns
  have hts := atoms_spec (ws := wsX5_init) B.pre
  have hown : s.vm.findClass RX5 = some m.cls := findClass_of_methodNamed B.named
  have hlocks := B.notSynchronized
  have hin : meth.name = "<init>" := (name_of_methodNamed B.named B.method).1
  subst hsz
  have hD := hD0.self (sz := s.heap.size)
  unfold cn_Qc
  generalize hAe : va_A [(h0, .inr (5, [.int 0, .null, .null, .null]))] s.heap.size = A at hD ⊢
  have hA : ∀ q : Nat, s.heap.size ≤ q → A q := fun q h => by rw [← hAe]; exact Or.inr h
  have hS : va_S A s.heap s.heap [] := va_S.rf
  have hP : va_P D vwCl ([(h0, .inr (5, [.int 0, .null, .null, .null]))] ++ ([] : va_W)) s.heap := hP
  have hD : va_D A ([(h0, .inr (5, [.int 0, .null, .null, .null]))] ++ ([] : va_W)) := hD
  have hl := lv_entry ([.ref h0, .int (8 : Int32)]) (n := 3) (Nat.le_of_ble_eq_true rfl)
  rw [lg_entry_eq]
  generalize (lg_sl ([.ref h0, .int (8 : Int32)]) ++ List.replicate (3 - (lg_sl ([.ref h0, .int (8 : Int32)])).length) Slot.unset).toArray = ls at hl ⊢
  have hl : lv_has ls 3 [(0, .ref h0), (1, .int (8 : Int32))] := hl
  have hin5 : ∀ w ∈ u_ws RX5 TX5 4, w ∈ wsX5_init := by decide +kernel
  refine lv_aload_n hx hb dX5_init_0 rfl (lv_at hl 0 rfl) ?_
  refine W.objInit hx hb hown (hts (.methodLink RX5 3 objectInit) (by decide +kernel)) (hts (.instanceMethod objectInit) (by decide +kernel)) (hts (.code objectInit ⟨#[0xb1]⟩ 1 none) (by decide +kernel)) rfl (by rw [hml]; exact hl.1) rfl dX5_init_1 (Nat.le_of_ble_eq_true rfl) (Nat.le_of_ble_eq_true rfl) ?_
  refine W.eq (g2 := F0 m 4 ls []) rfl ?_
  refine lv_iload_n hx hb dX5_init_4 rfl (lv_at hl 1 rfl) ?_
  refine lv_iconst (v := (0 : Int32)) hx hb dX5_init_5 (by decide) ?_
  refine va_mmax hx hb (by rw [hml, hl.1]) hown (hts (.methodLink RX5 9 Lib.Math.max.name) (by decide +kernel)) (hts (.static Lib.Math.max.name) (by decide +kernel)) (hts (.initialized "java/lang/Math") (by decide +kernel)) (hts (.code Lib.Math.max.name Lib.Math.max.code 2 (some .int)) (by decide +kernel)) (Nat.le_of_ble_eq_true rfl) (Nat.le_of_ble_eq_true rfl) (Nat.zero_le _) (Nat.zero_le _) dX5_init_6 ?_
  rw [show (if (8 : Int32) < (0 : Int32) then (0 : Int32) else (8 : Int32)) = (8 : Int32) by decide]
  refine lv_istore_n (lv' := [(2, .int (8 : Int32)), (0, .ref h0), (1, .int (8 : Int32))]) hx hb dX5_init_9 rfl hl (by decide) rfl (fun ls hl => ?_)
  refine lv_aload_n hx hb dX5_init_10 rfl (lv_at hl 1 rfl) ?_
  refine lv_iload_n hx hb dX5_init_11 rfl (lv_at hl 0 rfl) ?_
  refine cn_newi (N := 8) hx hb (hts (.arrayClass .int) (by decide +kernel)) hE hP hD hS hA (by decide) (by decide) (by decide) (Nat.le_of_ble_eq_true rfl) (Nat.le_of_ble_eq_true rfl) dX5_init_12 (fun q12 H hP hD hS => ?_)
  have hP : va_P D vwCl ([(h0, .inr (5, [.int 0, .null, .null, .null])), (q12, .inl (cA 0, 8, .inl (fun _ => 0)))] ++ ([] : va_W)) H := hP
  have hD : va_D A ([(h0, .inr (5, [.int 0, .null, .null, .null])), (q12, .inl (cA 0, 8, .inl (fun _ => 0)))] ++ ([] : va_W)) := hD
  refine va_putF (D := D) (ci := 5) (v := .ref q12) (ty := .array .int) (C := RX5) (T := TX5) (N := 4) hx hb hts hin5 tyX5 tyX5_ok nmX5 hown hE.1.1 hP hD hS 0 rfl rfl 1 (by decide) (hts (.fieldLink RX5 15 "OrderMover$Polynomial" "numbers" "[I") (by decide +kernel)) (fun _ h9 => h9) rfl hin rfl (by decide +kernel) rfl rfl (Nat.le_of_ble_eq_true rfl) dX5_init_14 (fun H locs hP hD hS => ?_)
  have hP : va_P D vwCl ([(h0, .inr (5, [.int 0, .ref q12, .null, .null])), (q12, .inl (cA 0, 8, .inl (fun _ => 0)))] ++ ([] : va_W)) H := hP
  have hD : va_D A ([(h0, .inr (5, [.int 0, .ref q12, .null, .null])), (q12, .inl (cA 0, 8, .inl (fun _ => 0)))] ++ ([] : va_W)) := hD
  refine lv_aload_n hx hb dX5_init_17 rfl (lv_at hl 1 rfl) ?_
  refine lv_iload_n hx hb dX5_init_18 rfl (lv_at hl 0 rfl) ?_
  refine cn_newi (N := 8) hx hb (hts (.arrayClass .int) (by decide +kernel)) hE hP hD hS hA (by decide) (by decide) (by decide) (Nat.le_of_ble_eq_true rfl) (Nat.le_of_ble_eq_true rfl) dX5_init_19 (fun q19 H hP hD hS => ?_)
  have hP : va_P D vwCl ([(h0, .inr (5, [.int 0, .ref q12, .null, .null])), (q12, .inl (cA 0, 8, .inl (fun _ => 0))), (q19, .inl (cA 0, 8, .inl (fun _ => 0)))] ++ ([] : va_W)) H := hP
  have hD : va_D A ([(h0, .inr (5, [.int 0, .ref q12, .null, .null])), (q12, .inl (cA 0, 8, .inl (fun _ => 0))), (q19, .inl (cA 0, 8, .inl (fun _ => 0)))] ++ ([] : va_W)) := hD
  refine va_putF (D := D) (ci := 5) (v := .ref q19) (ty := .array .int) (C := RX5) (T := TX5) (N := 4) hx hb hts hin5 tyX5 tyX5_ok nmX5 hown hE.1.1 hP hD hS 0 rfl rfl 2 (by decide) (hts (.fieldLink RX5 21 "OrderMover$Polynomial" "xs" "[I") (by decide +kernel)) (fun _ h9 => h9) rfl hin rfl (by decide +kernel) rfl rfl (Nat.le_of_ble_eq_true rfl) dX5_init_21 (fun H locs hP hD hS => ?_)
  have hP : va_P D vwCl ([(h0, .inr (5, [.int 0, .ref q12, .ref q19, .null])), (q12, .inl (cA 0, 8, .inl (fun _ => 0))), (q19, .inl (cA 0, 8, .inl (fun _ => 0)))] ++ ([] : va_W)) H := hP
  have hD : va_D A ([(h0, .inr (5, [.int 0, .ref q12, .ref q19, .null])), (q12, .inl (cA 0, 8, .inl (fun _ => 0))), (q19, .inl (cA 0, 8, .inl (fun _ => 0)))] ++ ([] : va_W)) := hD
  refine lv_aload_n hx hb dX5_init_24 rfl (lv_at hl 1 rfl) ?_
  refine lv_iload_n hx hb dX5_init_25 rfl (lv_at hl 0 rfl) ?_
  refine cn_newi (N := 8) hx hb (hts (.arrayClass .int) (by decide +kernel)) hE hP hD hS hA (by decide) (by decide) (by decide) (Nat.le_of_ble_eq_true rfl) (Nat.le_of_ble_eq_true rfl) dX5_init_26 (fun q26 H hP hD hS => ?_)
  have hP : va_P D vwCl ([(h0, .inr (5, [.int 0, .ref q12, .ref q19, .null])), (q12, .inl (cA 0, 8, .inl (fun _ => 0))), (q19, .inl (cA 0, 8, .inl (fun _ => 0))), (q26, .inl (cA 0, 8, .inl (fun _ => 0)))] ++ ([] : va_W)) H := hP
  have hD : va_D A ([(h0, .inr (5, [.int 0, .ref q12, .ref q19, .null])), (q12, .inl (cA 0, 8, .inl (fun _ => 0))), (q19, .inl (cA 0, 8, .inl (fun _ => 0))), (q26, .inl (cA 0, 8, .inl (fun _ => 0)))] ++ ([] : va_W)) := hD
  refine va_putF (D := D) (ci := 5) (v := .ref q26) (ty := .array .int) (C := RX5) (T := TX5) (N := 4) hx hb hts hin5 tyX5 tyX5_ok nmX5 hown hE.1.1 hP hD hS 0 rfl rfl 3 (by decide) (hts (.fieldLink RX5 24 "OrderMover$Polynomial" "ys" "[I") (by decide +kernel)) (fun _ h9 => h9) rfl hin rfl (by decide +kernel) rfl rfl (Nat.le_of_ble_eq_true rfl) dX5_init_28 (fun H locs hP hD hS => ?_)
  have hP : va_P D vwCl ([(h0, .inr (5, [.int 0, .ref q12, .ref q19, .ref q26])), (q12, .inl (cA 0, 8, .inl (fun _ => 0))), (q19, .inl (cA 0, 8, .inl (fun _ => 0))), (q26, .inl (cA 0, 8, .inl (fun _ => 0)))] ++ ([] : va_W)) H := hP
  have hD : va_D A ([(h0, .inr (5, [.int 0, .ref q12, .ref q19, .ref q26])), (q12, .inl (cA 0, 8, .inl (fun _ => 0))), (q19, .inl (cA 0, 8, .inl (fun _ => 0))), (q26, .inl (cA 0, 8, .inl (fun _ => 0)))] ++ ([] : va_W)) := hD
  have e0 : [(h0, .inr (5, [.int 0, .ref q12, .ref q19, .ref q26])), (q12, .inl (cA 0, 8, .inl (fun _ => 0))), (q19, .inl (cA 0, 8, .inl (fun _ => 0))), (q26, .inl (cA 0, 8, .inl (fun _ => 0)))] = cn_rl cA [14, 15, 16, 17] (fun q : Nat => if q = 14 then h0 else if q = 15 then q12 else if q = 16 then q19 else if q = 17 then q26 else 0) := by
    refine cn_cons rfl rfl ?_
    refine cn_cons rfl rfl ?_
    refine cn_cons rfl rfl ?_
    refine cn_cons rfl rfl ?_
    exact rfl
  have e9 : [(h0, .inr (5, [.int 0, .ref q12, .ref q19, .ref q26])), (q12, .inl (cA 0, 8, .inl (fun _ => 0))), (q19, .inl (cA 0, 8, .inl (fun _ => 0))), (q26, .inl (cA 0, 8, .inl (fun _ => 0)))] ++ ([] : va_W) = cn_rl cA [14, 15, 16, 17] (fun q : Nat => if q = 14 then h0 else if q = 15 then q12 else if q = 16 then q19 else if q = 17 then q26 else 0) := by
    rw [e0]
    exact rfl
  rw [e9] at hP hD
  exact W.vret hx hb hr (fun t ht hW => ⟨⟨(fun q : Nat => if q = 14 then h0 else if q = 15 then q12 else if q = 16 then q19 else if q = 17 then q26 else 0), rfl, rfl, by rw [ht]; exact hP, hD⟩, hS.F ht⟩) hS.2.2 dX5_init_31
set_option maxHeartbeats 4000000 in
set_option maxRecDepth 100000 in
theorem cn_5_500 (l : Launch) (D : va_G) (cA : Nat → ClassId) (h0 sz : Nat) : Met l yX5_init wsX5_init ({ frames := 1, cells := 3, slots := 48, locals := 27 }) (cn_Pc D cA h0 sz (.inr (5, [.int 0, .null, .null, .null])) [.ref h0, .int (16 : Int32)]) (cn_Qc D cA h0 sz (.inr (5, [.int 0, .null, .null, .null])) 500 [500, 501, 502, 503]) 3 48 (va_A [(h0, .inr (5, [.int 0, .null, .null, .null]))] sz) := by
  refine Met.ofW (cc := cX5_init) (maxL := 3) (ret := none) (by decide) rfl ?_
  intro p e s m args below meth c s₁ B hml hv
  obtain ⟨rfl, hsz, hP, hE, hD0⟩ := hv
  have hx := B.exec
  have hb := B.bytes
  have hr := B.returns
  have hts := atoms_spec (ws := wsX5_init) B.pre
  have hown : s.vm.findClass RX5 = some m.cls := findClass_of_methodNamed B.named
  have hlocks := B.notSynchronized
  have hin : meth.name = "<init>" := (name_of_methodNamed B.named B.method).1
  subst hsz
  have hD := hD0.self (sz := s.heap.size)
  unfold cn_Qc
  generalize hAe : va_A [(h0, .inr (5, [.int 0, .null, .null, .null]))] s.heap.size = A at hD ⊢
  have hA : ∀ q : Nat, s.heap.size ≤ q → A q := fun q h => by rw [← hAe]; exact Or.inr h
  have hS : va_S A s.heap s.heap [] := va_S.rf
  have hP : va_P D vwCl ([(h0, .inr (5, [.int 0, .null, .null, .null]))] ++ ([] : va_W)) s.heap := hP
  have hD : va_D A ([(h0, .inr (5, [.int 0, .null, .null, .null]))] ++ ([] : va_W)) := hD
  have hl := lv_entry ([.ref h0, .int (16 : Int32)]) (n := 3) (Nat.le_of_ble_eq_true rfl)
  rw [lg_entry_eq]
  generalize (lg_sl ([.ref h0, .int (16 : Int32)]) ++ List.replicate (3 - (lg_sl ([.ref h0, .int (16 : Int32)])).length) Slot.unset).toArray = ls at hl ⊢
  have hl : lv_has ls 3 [(0, .ref h0), (1, .int (16 : Int32))] := hl
  have hin5 : ∀ w ∈ u_ws RX5 TX5 4, w ∈ wsX5_init := by decide +kernel
  refine lv_aload_n hx hb dX5_init_0 rfl (lv_at hl 0 rfl) ?_
  refine W.objInit hx hb hown (hts (.methodLink RX5 3 objectInit) (by decide +kernel)) (hts (.instanceMethod objectInit) (by decide +kernel)) (hts (.code objectInit ⟨#[0xb1]⟩ 1 none) (by decide +kernel)) rfl (by rw [hml]; exact hl.1) rfl dX5_init_1 (Nat.le_of_ble_eq_true rfl) (Nat.le_of_ble_eq_true rfl) ?_
  refine W.eq (g2 := F0 m 4 ls []) rfl ?_
  refine lv_iload_n hx hb dX5_init_4 rfl (lv_at hl 1 rfl) ?_
  refine lv_iconst (v := (0 : Int32)) hx hb dX5_init_5 (by decide) ?_
  refine va_mmax hx hb (by rw [hml, hl.1]) hown (hts (.methodLink RX5 9 Lib.Math.max.name) (by decide +kernel)) (hts (.static Lib.Math.max.name) (by decide +kernel)) (hts (.initialized "java/lang/Math") (by decide +kernel)) (hts (.code Lib.Math.max.name Lib.Math.max.code 2 (some .int)) (by decide +kernel)) (Nat.le_of_ble_eq_true rfl) (Nat.le_of_ble_eq_true rfl) (Nat.zero_le _) (Nat.zero_le _) dX5_init_6 ?_
  rw [show (if (16 : Int32) < (0 : Int32) then (0 : Int32) else (16 : Int32)) = (16 : Int32) by decide]
  refine lv_istore_n (lv' := [(2, .int (16 : Int32)), (0, .ref h0), (1, .int (16 : Int32))]) hx hb dX5_init_9 rfl hl (by decide) rfl (fun ls hl => ?_)
  refine lv_aload_n hx hb dX5_init_10 rfl (lv_at hl 1 rfl) ?_
  refine lv_iload_n hx hb dX5_init_11 rfl (lv_at hl 0 rfl) ?_
  refine cn_newi (N := 16) hx hb (hts (.arrayClass .int) (by decide +kernel)) hE hP hD hS hA (by decide) (by decide) (by decide) (Nat.le_of_ble_eq_true rfl) (Nat.le_of_ble_eq_true rfl) dX5_init_12 (fun q12 H hP hD hS => ?_)
  have hP : va_P D vwCl ([(h0, .inr (5, [.int 0, .null, .null, .null])), (q12, .inl (cA 0, 16, .inl (fun _ => 0)))] ++ ([] : va_W)) H := hP
  have hD : va_D A ([(h0, .inr (5, [.int 0, .null, .null, .null])), (q12, .inl (cA 0, 16, .inl (fun _ => 0)))] ++ ([] : va_W)) := hD
  refine va_putF (D := D) (ci := 5) (v := .ref q12) (ty := .array .int) (C := RX5) (T := TX5) (N := 4) hx hb hts hin5 tyX5 tyX5_ok nmX5 hown hE.1.1 hP hD hS 0 rfl rfl 1 (by decide) (hts (.fieldLink RX5 15 "OrderMover$Polynomial" "numbers" "[I") (by decide +kernel)) (fun _ h9 => h9) rfl hin rfl (by decide +kernel) rfl rfl (Nat.le_of_ble_eq_true rfl) dX5_init_14 (fun H locs hP hD hS => ?_)
  have hP : va_P D vwCl ([(h0, .inr (5, [.int 0, .ref q12, .null, .null])), (q12, .inl (cA 0, 16, .inl (fun _ => 0)))] ++ ([] : va_W)) H := hP
  have hD : va_D A ([(h0, .inr (5, [.int 0, .ref q12, .null, .null])), (q12, .inl (cA 0, 16, .inl (fun _ => 0)))] ++ ([] : va_W)) := hD
  refine lv_aload_n hx hb dX5_init_17 rfl (lv_at hl 1 rfl) ?_
  refine lv_iload_n hx hb dX5_init_18 rfl (lv_at hl 0 rfl) ?_
  refine cn_newi (N := 16) hx hb (hts (.arrayClass .int) (by decide +kernel)) hE hP hD hS hA (by decide) (by decide) (by decide) (Nat.le_of_ble_eq_true rfl) (Nat.le_of_ble_eq_true rfl) dX5_init_19 (fun q19 H hP hD hS => ?_)
  have hP : va_P D vwCl ([(h0, .inr (5, [.int 0, .ref q12, .null, .null])), (q12, .inl (cA 0, 16, .inl (fun _ => 0))), (q19, .inl (cA 0, 16, .inl (fun _ => 0)))] ++ ([] : va_W)) H := hP
  have hD : va_D A ([(h0, .inr (5, [.int 0, .ref q12, .null, .null])), (q12, .inl (cA 0, 16, .inl (fun _ => 0))), (q19, .inl (cA 0, 16, .inl (fun _ => 0)))] ++ ([] : va_W)) := hD
  refine va_putF (D := D) (ci := 5) (v := .ref q19) (ty := .array .int) (C := RX5) (T := TX5) (N := 4) hx hb hts hin5 tyX5 tyX5_ok nmX5 hown hE.1.1 hP hD hS 0 rfl rfl 2 (by decide) (hts (.fieldLink RX5 21 "OrderMover$Polynomial" "xs" "[I") (by decide +kernel)) (fun _ h9 => h9) rfl hin rfl (by decide +kernel) rfl rfl (Nat.le_of_ble_eq_true rfl) dX5_init_21 (fun H locs hP hD hS => ?_)
  have hP : va_P D vwCl ([(h0, .inr (5, [.int 0, .ref q12, .ref q19, .null])), (q12, .inl (cA 0, 16, .inl (fun _ => 0))), (q19, .inl (cA 0, 16, .inl (fun _ => 0)))] ++ ([] : va_W)) H := hP
  have hD : va_D A ([(h0, .inr (5, [.int 0, .ref q12, .ref q19, .null])), (q12, .inl (cA 0, 16, .inl (fun _ => 0))), (q19, .inl (cA 0, 16, .inl (fun _ => 0)))] ++ ([] : va_W)) := hD
  refine lv_aload_n hx hb dX5_init_24 rfl (lv_at hl 1 rfl) ?_
  refine lv_iload_n hx hb dX5_init_25 rfl (lv_at hl 0 rfl) ?_
  refine cn_newi (N := 16) hx hb (hts (.arrayClass .int) (by decide +kernel)) hE hP hD hS hA (by decide) (by decide) (by decide) (Nat.le_of_ble_eq_true rfl) (Nat.le_of_ble_eq_true rfl) dX5_init_26 (fun q26 H hP hD hS => ?_)
  have hP : va_P D vwCl ([(h0, .inr (5, [.int 0, .ref q12, .ref q19, .null])), (q12, .inl (cA 0, 16, .inl (fun _ => 0))), (q19, .inl (cA 0, 16, .inl (fun _ => 0))), (q26, .inl (cA 0, 16, .inl (fun _ => 0)))] ++ ([] : va_W)) H := hP
  have hD : va_D A ([(h0, .inr (5, [.int 0, .ref q12, .ref q19, .null])), (q12, .inl (cA 0, 16, .inl (fun _ => 0))), (q19, .inl (cA 0, 16, .inl (fun _ => 0))), (q26, .inl (cA 0, 16, .inl (fun _ => 0)))] ++ ([] : va_W)) := hD
  refine va_putF (D := D) (ci := 5) (v := .ref q26) (ty := .array .int) (C := RX5) (T := TX5) (N := 4) hx hb hts hin5 tyX5 tyX5_ok nmX5 hown hE.1.1 hP hD hS 0 rfl rfl 3 (by decide) (hts (.fieldLink RX5 24 "OrderMover$Polynomial" "ys" "[I") (by decide +kernel)) (fun _ h9 => h9) rfl hin rfl (by decide +kernel) rfl rfl (Nat.le_of_ble_eq_true rfl) dX5_init_28 (fun H locs hP hD hS => ?_)
  have hP : va_P D vwCl ([(h0, .inr (5, [.int 0, .ref q12, .ref q19, .ref q26])), (q12, .inl (cA 0, 16, .inl (fun _ => 0))), (q19, .inl (cA 0, 16, .inl (fun _ => 0))), (q26, .inl (cA 0, 16, .inl (fun _ => 0)))] ++ ([] : va_W)) H := hP
  have hD : va_D A ([(h0, .inr (5, [.int 0, .ref q12, .ref q19, .ref q26])), (q12, .inl (cA 0, 16, .inl (fun _ => 0))), (q19, .inl (cA 0, 16, .inl (fun _ => 0))), (q26, .inl (cA 0, 16, .inl (fun _ => 0)))] ++ ([] : va_W)) := hD
  have e0 : [(h0, .inr (5, [.int 0, .ref q12, .ref q19, .ref q26])), (q12, .inl (cA 0, 16, .inl (fun _ => 0))), (q19, .inl (cA 0, 16, .inl (fun _ => 0))), (q26, .inl (cA 0, 16, .inl (fun _ => 0)))] = cn_rl cA [500, 501, 502, 503] (fun q : Nat => if q = 500 then h0 else if q = 501 then q12 else if q = 502 then q19 else if q = 503 then q26 else 0) := by
    refine cn_cons rfl rfl ?_
    refine cn_cons rfl rfl ?_
    refine cn_cons rfl rfl ?_
    refine cn_cons rfl rfl ?_
    exact rfl
  have e9 : [(h0, .inr (5, [.int 0, .ref q12, .ref q19, .ref q26])), (q12, .inl (cA 0, 16, .inl (fun _ => 0))), (q19, .inl (cA 0, 16, .inl (fun _ => 0))), (q26, .inl (cA 0, 16, .inl (fun _ => 0)))] ++ ([] : va_W) = cn_rl cA [500, 501, 502, 503] (fun q : Nat => if q = 500 then h0 else if q = 501 then q12 else if q = 502 then q19 else if q = 503 then q26 else 0) := by
    rw [e0]
    exact rfl
  rw [e9] at hP hD
  exact W.vret hx hb hr (fun t ht hW => ⟨⟨(fun q : Nat => if q = 500 then h0 else if q = 501 then q12 else if q = 502 then q19 else if q = 503 then q26 else 0), rfl, rfl, by rw [ht]; exact hP, hD⟩, hS.F ht⟩) hS.2.2 dX5_init_31
set_option maxHeartbeats 4000000 in
set_option maxRecDepth 100000 in
theorem cn_8_13 (l : Launch) (D : va_G) (cA : Nat → ClassId) (h0 sz : Nat) : Met l yX8_init wsX8_init ({ frames := 2, cells := 19, slots := 155, locals := 49 }) (cn_Pc D cA h0 sz (.inr (8, [.int 0, .null, .null, .null])) [.ref h0]) (cn_Qc D cA h0 sz (.inr (8, [.int 0, .null, .null, .null])) 13 [13, 19, 20, 21, 22, 23, 24, 25, 26, 27, 28, 29, 30, 31, 32, 18, 14, 15, 16, 17]) 19 155 (va_A [(h0, .inr (8, [.int 0, .null, .null, .null]))] sz) := by
  refine Met.ofW (cc := cX8_init) (maxL := 1) (ret := none) (by decide) rfl ?_
  intro p e s m args below meth c s₁ B hml hv
  obtain ⟨rfl, hsz, hP, hE, hD0⟩ := hv
  have hx := B.exec
  have hb := B.bytes
  have hr := B.returns
  have hts := atoms_spec (ws := wsX8_init) B.pre
  have hown : s.vm.findClass RX8 = some m.cls := findClass_of_methodNamed B.named
  have hlocks := B.notSynchronized
  have hin : meth.name = "<init>" := (name_of_methodNamed B.named B.method).1
  subst hsz
  have hD := hD0.self (sz := s.heap.size)
  unfold cn_Qc
  generalize hAe : va_A [(h0, .inr (8, [.int 0, .null, .null, .null]))] s.heap.size = A at hD ⊢
  have hA : ∀ q : Nat, s.heap.size ≤ q → A q := fun q h => by rw [← hAe]; exact Or.inr h
  have hS : va_S A s.heap s.heap [] := va_S.rf
  have hP : va_P D vwCl ([(h0, .inr (8, [.int 0, .null, .null, .null]))] ++ ([] : va_W)) s.heap := hP
  have hD : va_D A ([(h0, .inr (8, [.int 0, .null, .null, .null]))] ++ ([] : va_W)) := hD
  have hl := lv_entry ([.ref h0]) (n := 1) (Nat.le_of_ble_eq_true rfl)
  rw [lg_entry_eq]
  generalize (lg_sl ([.ref h0]) ++ List.replicate (1 - (lg_sl ([.ref h0])).length) Slot.unset).toArray = ls at hl ⊢
  have hl : lv_has ls 1 [(0, .ref h0)] := hl
  have hin4 : ∀ w ∈ u_ws RX4 TX4 4, w ∈ wsX8_init := by decide +kernel
  have hin5 : ∀ w ∈ u_ws RX5 TX5 4, w ∈ wsX8_init := by decide +kernel
  have hin8 : ∀ w ∈ u_ws RX8 TX8 4, w ∈ wsX8_init := by decide +kernel
  have hin10 : ∀ w ∈ u_ws RX10 TX10 3, w ∈ wsX8_init := by decide +kernel
  refine lv_aload_n hx hb dX8_init_0 rfl (lv_at hl 0 rfl) ?_
  refine W.objInit hx hb hown (hts (.methodLink RX8 3 objectInit) (by decide +kernel)) (hts (.instanceMethod objectInit) (by decide +kernel)) (hts (.code objectInit ⟨#[0xb1]⟩ 1 none) (by decide +kernel)) rfl (by rw [hml]; exact hl.1) rfl dX8_init_1 (Nat.le_of_ble_eq_true rfl) (Nat.le_of_ble_eq_true rfl) ?_
  refine W.eq (g2 := F0 m 4 ls []) rfl ?_
  refine lv_aload_n hx hb dX8_init_4 rfl (lv_at hl 0 rfl) ?_
  refine lv_iconst (v := (0 : Int32)) hx hb dX8_init_5 (by decide) ?_
  refine va_put (D := D) (ci := 8) (v := .int (0 : Int32)) (ty := .int) (C := RX8) (T := TX8) (N := 4) hx hb hts hin8 tyX8 tyX8_ok nmX8 hown hE.1.1 hP hD hS 0 rfl rfl 0 (by decide) (hts (.fieldLink RX8 9 "OrderMover$Slot" "holds" "I") (by decide +kernel)) (fun _ h9 => h9) rfl  (by decide +kernel) rfl rfl (Nat.le_of_ble_eq_true rfl) dX8_init_6 (fun H locs hP hD hS => ?_)
  have hP : va_P D vwCl ([(h0, .inr (8, [.int (0 : Int32), .null, .null, .null]))] ++ ([] : va_W)) H := hP
  have hD : va_D A ([(h0, .inr (8, [.int (0 : Int32), .null, .null, .null]))] ++ ([] : va_W)) := hD
  refine lv_aload_n hx hb dX8_init_9 rfl (lv_at hl 0 rfl) ?_
  refine va_new (ci := 5) (fs := [.int 0, .null, .null, .null]) (C := RX5) (T := TX5) (N := 4) hx hb hts hin5 tyX5 tyX5_ok hown (hts (.classLink RX8 15 RX5) (by decide +kernel)) (hts (.instantiable RX5 4) (by decide +kernel)) (hts (.initialized RX5) (by decide +kernel)) hE.1.1 hP hD hS hA rfl (by decide) (Nat.le_of_ble_eq_true rfl) (Nat.le_of_ble_eq_true rfl) dX8_init_10 (fun o10_1 H hP hD hS => ?_)
  have hP := va_P.swap hP
  have hD := va_D.swap hD
  have hP : va_P D vwCl ([(h0, .inr (8, [.int (0 : Int32), .null, .null, .null])), (o10_1, .inr (5, [.int 0, .null, .null, .null]))] ++ ([] : va_W)) H := hP
  have hD : va_D A ([(h0, .inr (8, [.int (0 : Int32), .null, .null, .null])), (o10_1, .inr (5, [.int 0, .null, .null, .null]))] ++ ([] : va_W)) := hD
  refine lv_dup hx hb dX8_init_13 rfl ?_
  refine lv_bipush (v := (8 : Int32)) hx hb dX8_init_14 (by decide) ?_
  have hPc := hP.part (cx := [(o10_1, .inr (5, [.int 0, .null, .null, .null]))]) [1] rfl
  have hPc : va_P D vwCl [(o10_1, .inr (5, [.int 0, .null, .null, .null]))] H := cn_left hPc
  have hDc : va_D A [(o10_1, .inr (5, [.int 0, .null, .null, .null]))] := cn_leftD (hD.part (cx := [(o10_1, .inr (5, [.int 0, .null, .null, .null]))]) [1] (by decide) rfl)
  have hFc : ∀ q, va_A [(o10_1, .inr (5, [.int 0, .null, .null, .null]))] H.size q → A q := fun q h => by rcases h with ⟨k, e, h⟩ | h; exact hDc.2 k (q, e) h; exact hA q (Nat.le_trans hS.1 h)
  refine va_callv (va_runI (As := [.int (8 : Int32)]) (rest := [.ref o10_1, .ref h0]) ⟨hx, hb, hml, hown, hts⟩ (cn_5_14 l D cA o10_1 H.size) (cwI 1 hts gX8_init_X5_init rfl rfl rfl (hts (.initialized RX5) (by decide +kernel)) (hts (.methodLink RX8 17 yX5_init) (by decide +kernel)) (hts (.instanceMethod yX5_init) (by decide +kernel)) rfl (by decide +kernel) ⟨Nat.le_of_ble_eq_true rfl, Nat.le_of_ble_eq_true rfl⟩) ⟨cn_bl, cn_in hE hPc (hDc.weaken (fun _ _ _ _ => trivial))⟩ rfl rfl hl.1 rfl (lv_room (Nat.le_of_ble_eq_true rfl)) dX8_init_16 ⟨Nat.le_of_ble_eq_true rfl, Nat.le_of_ble_eq_true rfl⟩) hS (fun q _ h => hFc q h) hFc (fun ad16_1 t H1 locs ht hvm hw hB hz1 hk1 hS => ?_)
  obtain ⟨hP1, hD1⟩ := hB
  rw [ht] at hP1
  obtain ⟨hP, hD⟩ := va_joinQ (wr := [(h0, .inr (8, [.int (0 : Int32), .null, .null, .null]))]) hP hD [1] [0] rfl rfl (by decide) (by decide) hk1 hFc hP1 hD1
  rw [List.append_assoc] at hP hD
  rw [cn_same (r := 14) (L := [14, 15, 16, 17]) (by decide +kernel)] at hP hD
  generalize H1 = H at hP hS ⊢
  have hP : va_P D vwCl ([(h0, .inr (8, [.int (0 : Int32), .null, .null, .null]))] ++ (cn_rl cA [14, 15, 16, 17] (fun q => ad16_1 (q - 14 + 14)) ++ ([] : va_W))) H := hP
  have hD : va_D A ([(h0, .inr (8, [.int (0 : Int32), .null, .null, .null]))] ++ (cn_rl cA [14, 15, 16, 17] (fun q => ad16_1 (q - 14 + 14)) ++ ([] : va_W))) := hD
  have hw : ad16_1 14 = o10_1 := hw
  rw [← hw]
  clear hw hP1 hD1 hPc hDc hFc hz1 hk1
  refine va_putF (D := D) (ci := 8) (v := .ref (ad16_1 14)) (ty := .object "OrderMover$Polynomial") (C := RX8) (T := TX8) (N := 4) hx hb hts hin8 tyX8 tyX8_ok nmX8 hown hE.1.1 hP hD hS 0 rfl rfl 1 (by decide) (hts (.fieldLink RX8 20 "OrderMover$Slot" "polynomial" "LOrderMover$Polynomial;") (by decide +kernel)) (fun _ h9 => h9) rfl hin rfl (by decide +kernel) rfl rfl (Nat.le_of_ble_eq_true rfl) dX8_init_19 (fun H locs hP hD hS => ?_)
  have hP : va_P D vwCl ([(h0, .inr (8, [.int (0 : Int32), .ref (ad16_1 14), .null, .null]))] ++ (cn_rl cA [14, 15, 16, 17] (fun q => ad16_1 (q - 14 + 14)) ++ ([] : va_W))) H := hP
  have hD : va_D A ([(h0, .inr (8, [.int (0 : Int32), .ref (ad16_1 14), .null, .null]))] ++ (cn_rl cA [14, 15, 16, 17] (fun q => ad16_1 (q - 14 + 14)) ++ ([] : va_W))) := hD
  refine lv_aload_n hx hb dX8_init_22 rfl (lv_at hl 0 rfl) ?_
  refine va_new (ci := 10) (fs := [.int 0, .int 0, .int 0]) (C := RX10) (T := TX10) (N := 3) hx hb hts hin10 tyX10 tyX10_ok hown (hts (.classLink RX8 24 RX10) (by decide +kernel)) (hts (.instantiable RX10 3) (by decide +kernel)) (hts (.initialized RX10) (by decide +kernel)) hE.1.1 hP hD hS hA rfl (by decide) (Nat.le_of_ble_eq_true rfl) (Nat.le_of_ble_eq_true rfl) dX8_init_23 (fun o23_2 H hP hD hS => ?_)
  have hP := va_P.swap hP
  have hD := va_D.swap hD
  have hP : va_P D vwCl ([(h0, .inr (8, [.int (0 : Int32), .ref (ad16_1 14), .null, .null])), (o23_2, .inr (10, [.int 0, .int 0, .int 0]))] ++ (cn_rl cA [14, 15, 16, 17] (fun q => ad16_1 (q - 14 + 14)) ++ ([] : va_W))) H := hP
  have hD : va_D A ([(h0, .inr (8, [.int (0 : Int32), .ref (ad16_1 14), .null, .null])), (o23_2, .inr (10, [.int 0, .int 0, .int 0]))] ++ (cn_rl cA [14, 15, 16, 17] (fun q => ad16_1 (q - 14 + 14)) ++ ([] : va_W))) := hD
  refine lv_dup hx hb dX8_init_26 rfl ?_
  have hPc := hP.part (cx := [(o23_2, .inr (10, [.int 0, .int 0, .int 0]))]) [1] rfl
  have hPc : va_P D vwCl [(o23_2, .inr (10, [.int 0, .int 0, .int 0]))] H := cn_left hPc
  have hDc : va_D A [(o23_2, .inr (10, [.int 0, .int 0, .int 0]))] := cn_leftD (hD.part (cx := [(o23_2, .inr (10, [.int 0, .int 0, .int 0]))]) [1] (by decide) rfl)
  have hFc : ∀ q, va_A [(o23_2, .inr (10, [.int 0, .int 0, .int 0]))] H.size q → A q := fun q h => by rcases h with ⟨k, e, h⟩ | h; exact hDc.2 k (q, e) h; exact hA q (Nat.le_trans hS.1 h)
  refine va_callv (va_runIN (As := []) (rest := [.ref o23_2, .ref h0]) ⟨hx, hb, hml, hown, hts⟩ (cn_10_150 l D cA o23_2 H.size) ⟨va_cnB (host := "OrderMover") 0 hts gX8_init_X10_init_n26 rfl rfl rfl (hE.1.2 (RX8, 26, yX10_init, "OrderMover") (by decide +kernel)) (hts (.initialized RX10) (by decide +kernel)) (by decide +kernel) ⟨Nat.le_of_ble_eq_true rfl, Nat.le_of_ble_eq_true rfl⟩, rfl, hts (.instanceMethod yX10_init) (by decide +kernel)⟩ ⟨cn_bl, cn_in hE hPc (hDc.weaken (fun _ _ _ _ => trivial))⟩ rfl rfl hl.1 rfl (lv_room (Nat.le_of_ble_eq_true rfl)) dX8_init_27 ⟨Nat.le_of_ble_eq_true rfl, Nat.le_of_ble_eq_true rfl⟩) hS (fun q _ h => hFc q h) hFc (fun ad27_2 t H1 locs ht hvm hw hB hz1 hk1 hS => ?_)
  obtain ⟨hP1, hD1⟩ := hB
  rw [ht] at hP1
  obtain ⟨hP, hD⟩ := va_joinQ (wr := [(h0, .inr (8, [.int (0 : Int32), .ref (ad16_1 14), .null, .null]))]) hP hD [1] [0] rfl rfl (by decide) (by decide) hk1 hFc hP1 hD1
  rw [List.append_assoc] at hP hD
  rw [cn_move (r := 150) (r' := 18) (L := [150]) (L' := [18]) (by decide +kernel) (by decide +kernel)] at hP hD
  generalize H1 = H at hP hS ⊢
  have hP : va_P D vwCl ([(h0, .inr (8, [.int (0 : Int32), .ref (ad16_1 14), .null, .null]))] ++ (cn_rl cA [18] (fun q => ad27_2 (q - 18 + 150)) ++ (cn_rl cA [14, 15, 16, 17] (fun q => ad16_1 (q - 14 + 14)) ++ ([] : va_W)))) H := hP
  have hD : va_D A ([(h0, .inr (8, [.int (0 : Int32), .ref (ad16_1 14), .null, .null]))] ++ (cn_rl cA [18] (fun q => ad27_2 (q - 18 + 150)) ++ (cn_rl cA [14, 15, 16, 17] (fun q => ad16_1 (q - 14 + 14)) ++ ([] : va_W)))) := hD
  have hw : ad27_2 150 = o23_2 := hw
  rw [← hw]
  clear hw hP1 hD1 hPc hDc hFc hz1 hk1
  refine va_putF (D := D) (ci := 8) (v := .ref (ad27_2 150)) (ty := .object "OrderMover$TermOrder") (C := RX8) (T := TX8) (N := 4) hx hb hts hin8 tyX8 tyX8_ok nmX8 hown hE.1.1 hP hD hS 0 rfl rfl 2 (by decide) (hts (.fieldLink RX8 27 "OrderMover$Slot" "order" "LOrderMover$TermOrder;") (by decide +kernel)) (fun _ h9 => h9) rfl hin rfl (by decide +kernel) rfl rfl (Nat.le_of_ble_eq_true rfl) dX8_init_30 (fun H locs hP hD hS => ?_)
  have hP : va_P D vwCl ([(h0, .inr (8, [.int (0 : Int32), .ref (ad16_1 14), .ref (ad27_2 150), .null]))] ++ (cn_rl cA [18] (fun q => ad27_2 (q - 18 + 150)) ++ (cn_rl cA [14, 15, 16, 17] (fun q => ad16_1 (q - 14 + 14)) ++ ([] : va_W)))) H := hP
  have hD : va_D A ([(h0, .inr (8, [.int (0 : Int32), .ref (ad16_1 14), .ref (ad27_2 150), .null]))] ++ (cn_rl cA [18] (fun q => ad27_2 (q - 18 + 150)) ++ (cn_rl cA [14, 15, 16, 17] (fun q => ad16_1 (q - 14 + 14)) ++ ([] : va_W)))) := hD
  refine lv_aload_n hx hb dX8_init_33 rfl (lv_at hl 0 rfl) ?_
  refine va_new (ci := 4) (fs := [.int 0, .null, .null, .null]) (C := RX4) (T := TX4) (N := 4) hx hb hts hin4 tyX4 tyX4_ok hown (hts (.classLink RX8 31 RX4) (by decide +kernel)) (hts (.instantiable RX4 4) (by decide +kernel)) (hts (.initialized RX4) (by decide +kernel)) hE.1.1 hP hD hS hA rfl (by decide) (Nat.le_of_ble_eq_true rfl) (Nat.le_of_ble_eq_true rfl) dX8_init_34 (fun o34_3 H hP hD hS => ?_)
  have hP := va_P.swap hP
  have hD := va_D.swap hD
  have hP : va_P D vwCl ([(h0, .inr (8, [.int (0 : Int32), .ref (ad16_1 14), .ref (ad27_2 150), .null])), (o34_3, .inr (4, [.int 0, .null, .null, .null]))] ++ (cn_rl cA [18] (fun q => ad27_2 (q - 18 + 150)) ++ (cn_rl cA [14, 15, 16, 17] (fun q => ad16_1 (q - 14 + 14)) ++ ([] : va_W)))) H := hP
  have hD : va_D A ([(h0, .inr (8, [.int (0 : Int32), .ref (ad16_1 14), .ref (ad27_2 150), .null])), (o34_3, .inr (4, [.int 0, .null, .null, .null]))] ++ (cn_rl cA [18] (fun q => ad27_2 (q - 18 + 150)) ++ (cn_rl cA [14, 15, 16, 17] (fun q => ad16_1 (q - 14 + 14)) ++ ([] : va_W)))) := hD
  refine lv_dup hx hb dX8_init_37 rfl ?_
  have hPc := hP.part (cx := [(o34_3, .inr (4, [.int 0, .null, .null, .null]))]) [1] rfl
  have hPc : va_P D vwCl [(o34_3, .inr (4, [.int 0, .null, .null, .null]))] H := cn_left hPc
  have hDc : va_D A [(o34_3, .inr (4, [.int 0, .null, .null, .null]))] := cn_leftD (hD.part (cx := [(o34_3, .inr (4, [.int 0, .null, .null, .null]))]) [1] (by decide) rfl)
  have hFc : ∀ q, va_A [(o34_3, .inr (4, [.int 0, .null, .null, .null]))] H.size q → A q := fun q h => by rcases h with ⟨k, e, h⟩ | h; exact hDc.2 k (q, e) h; exact hA q (Nat.le_trans hS.1 h)
  refine va_callv (va_runIN (As := []) (rest := [.ref o34_3, .ref h0]) ⟨hx, hb, hml, hown, hts⟩ (cn_4_151 l D cA o34_3 H.size) ⟨va_cnB (host := "OrderMover") 0 hts gX8_init_X4_init_n33 rfl rfl rfl (hE.1.2 (RX8, 33, yX4_init, "OrderMover") (by decide +kernel)) (hts (.initialized RX4) (by decide +kernel)) (by decide +kernel) ⟨Nat.le_of_ble_eq_true rfl, Nat.le_of_ble_eq_true rfl⟩, rfl, hts (.instanceMethod yX4_init) (by decide +kernel)⟩ ⟨cn_bl, cn_in hE hPc (hDc.weaken (fun _ _ _ _ => trivial))⟩ rfl rfl hl.1 rfl (lv_room (Nat.le_of_ble_eq_true rfl)) dX8_init_38 ⟨Nat.le_of_ble_eq_true rfl, Nat.le_of_ble_eq_true rfl⟩) hS (fun q _ h => hFc q h) hFc (fun ad38_3 t H1 locs ht hvm hw hB hz1 hk1 hS => ?_)
  obtain ⟨hP1, hD1⟩ := hB
  rw [ht] at hP1
  obtain ⟨hP, hD⟩ := va_joinQ (wr := [(h0, .inr (8, [.int (0 : Int32), .ref (ad16_1 14), .ref (ad27_2 150), .null]))]) hP hD [1] [0] rfl rfl (by decide) (by decide) hk1 hFc hP1 hD1
  rw [List.append_assoc] at hP hD
  rw [cn_move (r := 151) (r' := 19) (L := [151, 152, 153, 154, 155, 156, 157, 158, 159, 160, 161, 162, 163, 164]) (L' := [19, 20, 21, 22, 23, 24, 25, 26, 27, 28, 29, 30, 31, 32]) (by decide +kernel) (by decide +kernel)] at hP hD
  generalize H1 = H at hP hS ⊢
  have hP : va_P D vwCl ([(h0, .inr (8, [.int (0 : Int32), .ref (ad16_1 14), .ref (ad27_2 150), .null]))] ++ (cn_rl cA [19, 20, 21, 22, 23, 24, 25, 26, 27, 28, 29, 30, 31, 32] (fun q => ad38_3 (q - 19 + 151)) ++ (cn_rl cA [18] (fun q => ad27_2 (q - 18 + 150)) ++ (cn_rl cA [14, 15, 16, 17] (fun q => ad16_1 (q - 14 + 14)) ++ ([] : va_W))))) H := hP
  have hD : va_D A ([(h0, .inr (8, [.int (0 : Int32), .ref (ad16_1 14), .ref (ad27_2 150), .null]))] ++ (cn_rl cA [19, 20, 21, 22, 23, 24, 25, 26, 27, 28, 29, 30, 31, 32] (fun q => ad38_3 (q - 19 + 151)) ++ (cn_rl cA [18] (fun q => ad27_2 (q - 18 + 150)) ++ (cn_rl cA [14, 15, 16, 17] (fun q => ad16_1 (q - 14 + 14)) ++ ([] : va_W))))) := hD
  have hw : ad38_3 151 = o34_3 := hw
  rw [← hw]
  clear hw hP1 hD1 hPc hDc hFc hz1 hk1
  refine va_putF (D := D) (ci := 8) (v := .ref (ad38_3 151)) (ty := .object "OrderMover$Members") (C := RX8) (T := TX8) (N := 4) hx hb hts hin8 tyX8 tyX8_ok nmX8 hown hE.1.1 hP hD hS 0 rfl rfl 3 (by decide) (hts (.fieldLink RX8 34 "OrderMover$Slot" "members" "LOrderMover$Members;") (by decide +kernel)) (fun _ h9 => h9) rfl hin rfl (by decide +kernel) rfl rfl (Nat.le_of_ble_eq_true rfl) dX8_init_41 (fun H locs hP hD hS => ?_)
  have hP : va_P D vwCl ([(h0, .inr (8, [.int (0 : Int32), .ref (ad16_1 14), .ref (ad27_2 150), .ref (ad38_3 151)]))] ++ (cn_rl cA [19, 20, 21, 22, 23, 24, 25, 26, 27, 28, 29, 30, 31, 32] (fun q => ad38_3 (q - 19 + 151)) ++ (cn_rl cA [18] (fun q => ad27_2 (q - 18 + 150)) ++ (cn_rl cA [14, 15, 16, 17] (fun q => ad16_1 (q - 14 + 14)) ++ ([] : va_W))))) H := hP
  have hD : va_D A ([(h0, .inr (8, [.int (0 : Int32), .ref (ad16_1 14), .ref (ad27_2 150), .ref (ad38_3 151)]))] ++ (cn_rl cA [19, 20, 21, 22, 23, 24, 25, 26, 27, 28, 29, 30, 31, 32] (fun q => ad38_3 (q - 19 + 151)) ++ (cn_rl cA [18] (fun q => ad27_2 (q - 18 + 150)) ++ (cn_rl cA [14, 15, 16, 17] (fun q => ad16_1 (q - 14 + 14)) ++ ([] : va_W))))) := hD
  have e0 : [(h0, .inr (8, [.int (0 : Int32), .ref (ad16_1 14), .ref (ad27_2 150), .ref (ad38_3 151)]))] = cn_rl cA [13] (fun q : Nat => if q = 13 then h0 else if 14 ≤ q ∧ q < 18 then ad16_1 (q - 14 + 14) else if 18 ≤ q ∧ q < 19 then ad27_2 (q - 18 + 150) else if 19 ≤ q ∧ q < 33 then ad38_3 (q - 19 + 151) else 0) := by
    refine cn_cons rfl rfl ?_
    exact rfl
  have e1 : cn_rl cA [19, 20, 21, 22, 23, 24, 25, 26, 27, 28, 29, 30, 31, 32] (fun q => ad38_3 (q - 19 + 151)) = cn_rl cA [19, 20, 21, 22, 23, 24, 25, 26, 27, 28, 29, 30, 31, 32] (fun q : Nat => if q = 13 then h0 else if 14 ≤ q ∧ q < 18 then ad16_1 (q - 14 + 14) else if 18 ≤ q ∧ q < 19 then ad27_2 (q - 18 + 150) else if 19 ≤ q ∧ q < 33 then ad38_3 (q - 19 + 151) else 0) := by
    refine cn_cong (lo := 19) (hi := 33) (by decide +kernel) (fun q h1 h2 => ?_)
    show ad38_3 (q - 19 + 151) = if q = 13 then h0 else if 14 ≤ q ∧ q < 18 then ad16_1 (q - 14 + 14) else if 18 ≤ q ∧ q < 19 then ad27_2 (q - 18 + 150) else if 19 ≤ q ∧ q < 33 then ad38_3 (q - 19 + 151) else 0
    rw [if_neg (show ¬ q = 13 by omega), if_neg (show ¬ (14 ≤ q ∧ q < 18) by omega), if_neg (show ¬ (18 ≤ q ∧ q < 19) by omega), if_pos (show 19 ≤ q ∧ q < 33 by omega)]
  have e2 : cn_rl cA [18] (fun q => ad27_2 (q - 18 + 150)) = cn_rl cA [18] (fun q : Nat => if q = 13 then h0 else if 14 ≤ q ∧ q < 18 then ad16_1 (q - 14 + 14) else if 18 ≤ q ∧ q < 19 then ad27_2 (q - 18 + 150) else if 19 ≤ q ∧ q < 33 then ad38_3 (q - 19 + 151) else 0) := by
    refine cn_cong (lo := 18) (hi := 19) (by decide +kernel) (fun q h1 h2 => ?_)
    show ad27_2 (q - 18 + 150) = if q = 13 then h0 else if 14 ≤ q ∧ q < 18 then ad16_1 (q - 14 + 14) else if 18 ≤ q ∧ q < 19 then ad27_2 (q - 18 + 150) else if 19 ≤ q ∧ q < 33 then ad38_3 (q - 19 + 151) else 0
    rw [if_neg (show ¬ q = 13 by omega), if_neg (show ¬ (14 ≤ q ∧ q < 18) by omega), if_pos (show 18 ≤ q ∧ q < 19 by omega)]
  have e3 : cn_rl cA [14, 15, 16, 17] (fun q => ad16_1 (q - 14 + 14)) = cn_rl cA [14, 15, 16, 17] (fun q : Nat => if q = 13 then h0 else if 14 ≤ q ∧ q < 18 then ad16_1 (q - 14 + 14) else if 18 ≤ q ∧ q < 19 then ad27_2 (q - 18 + 150) else if 19 ≤ q ∧ q < 33 then ad38_3 (q - 19 + 151) else 0) := by
    refine cn_cong (lo := 14) (hi := 18) (by decide +kernel) (fun q h1 h2 => ?_)
    show ad16_1 (q - 14 + 14) = if q = 13 then h0 else if 14 ≤ q ∧ q < 18 then ad16_1 (q - 14 + 14) else if 18 ≤ q ∧ q < 19 then ad27_2 (q - 18 + 150) else if 19 ≤ q ∧ q < 33 then ad38_3 (q - 19 + 151) else 0
    rw [if_neg (show ¬ q = 13 by omega), if_pos (show 14 ≤ q ∧ q < 18 by omega)]
  have e9 : [(h0, .inr (8, [.int (0 : Int32), .ref (ad16_1 14), .ref (ad27_2 150), .ref (ad38_3 151)]))] ++ (cn_rl cA [19, 20, 21, 22, 23, 24, 25, 26, 27, 28, 29, 30, 31, 32] (fun q => ad38_3 (q - 19 + 151)) ++ (cn_rl cA [18] (fun q => ad27_2 (q - 18 + 150)) ++ (cn_rl cA [14, 15, 16, 17] (fun q => ad16_1 (q - 14 + 14)) ++ ([] : va_W)))) = cn_rl cA [13, 19, 20, 21, 22, 23, 24, 25, 26, 27, 28, 29, 30, 31, 32, 18, 14, 15, 16, 17] (fun q : Nat => if q = 13 then h0 else if 14 ≤ q ∧ q < 18 then ad16_1 (q - 14 + 14) else if 18 ≤ q ∧ q < 19 then ad27_2 (q - 18 + 150) else if 19 ≤ q ∧ q < 33 then ad38_3 (q - 19 + 151) else 0) := by
    rw [e0, e1, e2, e3]
    exact rfl
  rw [e9] at hP hD
  exact W.vret hx hb hr (fun t ht hW => ⟨⟨(fun q : Nat => if q = 13 then h0 else if 14 ≤ q ∧ q < 18 then ad16_1 (q - 14 + 14) else if 18 ≤ q ∧ q < 19 then ad27_2 (q - 18 + 150) else if 19 ≤ q ∧ q < 33 then ad38_3 (q - 19 + 151) else 0), rfl, rfl, by rw [ht]; exact hP, hD⟩, hS.F ht⟩) hS.2.2 dX8_init_44
