theorem lw_nIa (i k : Nat) : nI i + nI k = nI (i + k) := (Int32.ofNat_add i k).symm
theorem lw_idx {i L k : Nat} (hi : i + 5 ≤ L) (hL : L ≤ 2560) (hk : k < 5) {y : Int32} (hy : y = nI (i + k)) : vp_in y L := by
  subst hy
  exact vp_in_nI (by omega) (by omega)
theorem lw_ix {i L : Nat} (hL : L ≤ 2560) (h : ¬ nI L - 5 < nI i) (hi : i ≤ L + 4) : i + 5 ≤ L := by
  apply Classical.byContradiction
  intro hn
  apply h
  rw [Int32.lt_iff_toInt_lt, nI_toInt (by omega)]
  have e : (nI L - 5).toInt = (L : Int) - 5 := by
    have := pk_sub_toInt (a := L) (b := 5) (by omega) (by decide)
    exact this
  rw [e]; omega
set_option maxHeartbeats 4000000 in
set_option maxRecDepth 100000 in
theorem lw_op_field {p : Program} {l : Launch} {e : Env} {s : State} {m : MethodId} {below : List Frame} {meth : Method} {c : Code} {D : va_G} {cA : Nat → ClassId} {adr1 adr2 : Nat → Nat} {Rel : smM → smM → Prop} (hop : Op_field Rel) {b L : Nat} {xs : Nat → Int32} (hL : L ≤ 2560) (C0 : lw_At p s m meth c b L xs) (hE : smEnv D cA s) (hJ1 : smJ 1 adr1) (hJ2 : smJ 2 adr2) (hA1 : ∀ q, smA 1 adr1 q → s.heap.size ≤ q) (hA2 : ∀ q, smA 2 adr2 q → s.heap.size ≤ q) (hd1 : ∀ q, smA 2 adr2 q → ¬ smA 1 adr1 q) (hd2 : ∀ q, smA 1 adr1 q → ¬ smA 2 adr2 q) {i : Nat} (hi : i + 5 ≤ L) (kk : ∀ M1 M2, Rel M1 M2 → ∀ H locs, smP D cA 1 adr1 M1 H → smP D cA 2 adr2 M2 H → va_S (fun q : Nat => s.heap.size ≤ q) s.heap H locs → ∀ ls, lv_has ls 4 [(0, .ref b), (1, .ref (adr1 0)), (2, .ref (adr2 1000)), (3, .int (nI i))] → W p l e room_1 s m #[Value.ref b] below meth c H locs 548 6688 (lw_Z below #[Value.ref b] s) (F0 m 1282 ls [])) {M1 M2 : smM} (hR : Rel M1 M2) {H : Heap} {locs : List Loc} (hP1 : smP D cA 1 adr1 M1 H) (hP2 : smP D cA 2 adr2 M2 H) (hS : va_S (fun q : Nat => s.heap.size ≤ q) s.heap H locs) {ls : Array Slot} (hl : lv_has ls 4 [(0, .ref b), (1, .ref (adr1 0)), (2, .ref (adr2 1000)), (3, .int (nI i))]) : W p l e room_1 s m #[Value.ref b] below meth c H locs 548 6688 (lw_Z below #[Value.ref b] s) (F0 m 176 ls []) := by
  obtain ⟨hx, hb, hr, hml, hown, hts, hX, hbl, hlocks, hgv⟩ := C0
  have hown : s.vm.findClass RL = some m.cls := hown
  have hbA : ¬ (fun q : Nat => s.heap.size ≤ q) b := Nat.not_le.mpr hbl
  have hT1 : smT 1 0 11 := ⟨Nat.le_refl _, by decide, by decide +kernel⟩
  have hT2 : smT 2 1000 12 := ⟨Nat.le_refl _, by decide, by decide +kernel⟩
  have h_1 : vp_in (nI i + 1) L := lw_idx hi hL (by decide : 1 < 5) (lw_nIa i 1)
  obtain ⟨r, M1', M2', hc1, hc2, hR⟩ := hop M1 M2 hR (xs (nI i + 1).toNatClampNeg)
  refine lv_aload_n hx hb dL_law_176 rfl (lv_at hl 1 rfl) ?_
  refine lv_aload_n hx hb dL_law_177 rfl (lv_at hl 0 rfl) ?_
  refine lv_iload_n hx hb dL_law_178 rfl (lv_at hl 3 rfl) ?_
  refine lv_iconst (v := 1) hx hb dL_law_179 (by decide) ?_
  refine lv_iadd hx hb dL_law_180 ?_
  refine va_sld hx hb hX hbl hbA hS h_1 dL_law_181 ?_
  refine lw_ci (va_runV (As := [.int (xs (nI i + 1).toNatClampNeg)]) (rest := []) ⟨hx, hb, hml, hown, hts⟩ (k_X11_field l D cA adr1 hJ1 0 (xs (nI i + 1).toNatClampNeg) hT1 M1 r M1' hc1) (cwV 1 hts hL_X11_field rfl rfl rfl (by decide +kernel) ⟨Nat.le_of_ble_eq_true rfl, Nat.le_of_ble_eq_true rfl⟩) ⟨smPc_bl, smRv hE hP1 hT1 rfl (ci := 11) (q := (RX11, TX11, 11)) rfl, smPc_in [.ref (adr1 0), .int (xs (nI i + 1).toNatClampNeg)] hE hP1⟩ rfl rfl hl.1 rfl (lv_room (Nat.le_of_ble_eq_true rfl)) dL_law_182 ⟨Nat.le_of_ble_eq_true rfl, Nat.le_of_ble_eq_true rfl⟩) hS hA1 hP2 hd1 (fun H locs hP1 hP2 hS => ?_)
  refine lv_aload_n hx hb dL_law_185 rfl (lv_at hl 2 rfl) ?_
  refine lv_aload_n hx hb dL_law_186 rfl (lv_at hl 0 rfl) ?_
  refine lv_iload_n hx hb dL_law_187 rfl (lv_at hl 3 rfl) ?_
  refine lv_iconst (v := 1) hx hb dL_law_188 (by decide) ?_
  refine lv_iadd hx hb dL_law_189 ?_
  refine va_sld hx hb hX hbl hbA hS h_1 dL_law_190 ?_
  refine lw_ci (va_runV (As := [.int (xs (nI i + 1).toNatClampNeg)]) (rest := [.int r]) ⟨hx, hb, hml, hown, hts⟩ (k_X12_field l D cA adr2 hJ2 1000 (xs (nI i + 1).toNatClampNeg) hT2 M2 r M2' hc2) (cwV 1 hts hL_X12_field rfl rfl rfl (by decide +kernel) ⟨Nat.le_of_ble_eq_true rfl, Nat.le_of_ble_eq_true rfl⟩) ⟨smPc_bl, smRv hE hP2 hT2 rfl (ci := 12) (q := (RX12, TX12, 54)) rfl, smPc_in [.ref (adr2 1000), .int (xs (nI i + 1).toNatClampNeg)] hE hP2⟩ rfl rfl hl.1 rfl (lv_room (Nat.le_of_ble_eq_true rfl)) dL_law_191 ⟨Nat.le_of_ble_eq_true rfl, Nat.le_of_ble_eq_true rfl⟩) hS hA2 hP1 hd2 (fun H locs hP2 hP1 hS => ?_)
  refine lv_icmp_eq (tgt := 1282) hx hb dL_law_194 (by decide) (fun _ => ?_) (fun c => absurd rfl c)
  exact kk _ _ hR _ _ hP1 hP2 hS _ hl
set_option maxHeartbeats 4000000 in
set_option maxRecDepth 100000 in
theorem lw_op_system {p : Program} {l : Launch} {e : Env} {s : State} {m : MethodId} {below : List Frame} {meth : Method} {c : Code} {D : va_G} {cA : Nat → ClassId} {adr1 adr2 : Nat → Nat} {Rel : smM → smM → Prop} (hop : Op_system Rel) {b L : Nat} {xs : Nat → Int32} (hL : L ≤ 2560) (C0 : lw_At p s m meth c b L xs) (hE : smEnv D cA s) (hJ1 : smJ 1 adr1) (hJ2 : smJ 2 adr2) (hA1 : ∀ q, smA 1 adr1 q → s.heap.size ≤ q) (hA2 : ∀ q, smA 2 adr2 q → s.heap.size ≤ q) (hd1 : ∀ q, smA 2 adr2 q → ¬ smA 1 adr1 q) (hd2 : ∀ q, smA 1 adr1 q → ¬ smA 2 adr2 q) {i : Nat} (hi : i + 5 ≤ L) (kk : ∀ M1 M2, Rel M1 M2 → ∀ H locs, smP D cA 1 adr1 M1 H → smP D cA 2 adr2 M2 H → va_S (fun q : Nat => s.heap.size ≤ q) s.heap H locs → ∀ ls, lv_has ls 4 [(0, .ref b), (1, .ref (adr1 0)), (2, .ref (adr2 1000)), (3, .int (nI i))] → W p l e room_1 s m #[Value.ref b] below meth c H locs 548 6688 (lw_Z below #[Value.ref b] s) (F0 m 1282 ls [])) {M1 M2 : smM} (hR : Rel M1 M2) {H : Heap} {locs : List Loc} (hP1 : smP D cA 1 adr1 M1 H) (hP2 : smP D cA 2 adr2 M2 H) (hS : va_S (fun q : Nat => s.heap.size ≤ q) s.heap H locs) {ls : Array Slot} (hl : lv_has ls 4 [(0, .ref b), (1, .ref (adr1 0)), (2, .ref (adr2 1000)), (3, .int (nI i))]) : W p l e room_1 s m #[Value.ref b] below meth c H locs 548 6688 (lw_Z below #[Value.ref b] s) (F0 m 199 ls []) := by
  obtain ⟨hx, hb, hr, hml, hown, hts, hX, hbl, hlocks, hgv⟩ := C0
  have hown : s.vm.findClass RL = some m.cls := hown
  have hbA : ¬ (fun q : Nat => s.heap.size ≤ q) b := Nat.not_le.mpr hbl
  have hT1 : smT 1 0 11 := ⟨Nat.le_refl _, by decide, by decide +kernel⟩
  have hT2 : smT 2 1000 12 := ⟨Nat.le_refl _, by decide, by decide +kernel⟩
  have h_1 : vp_in (nI i + 1) L := lw_idx hi hL (by decide : 1 < 5) (lw_nIa i 1)
  have h_2 : vp_in (nI i + 2) L := lw_idx hi hL (by decide : 2 < 5) (lw_nIa i 2)
  obtain ⟨r, M1', M2', hc1, hc2, hR⟩ := hop M1 M2 hR (xs (nI i + 1).toNatClampNeg) (xs (nI i + 2).toNatClampNeg)
  refine lv_aload_n hx hb dL_law_199 rfl (lv_at hl 1 rfl) ?_
  refine lv_aload_n hx hb dL_law_200 rfl (lv_at hl 0 rfl) ?_
  refine lv_iload_n hx hb dL_law_201 rfl (lv_at hl 3 rfl) ?_
  refine lv_iconst (v := 1) hx hb dL_law_202 (by decide) ?_
  refine lv_iadd hx hb dL_law_203 ?_
  refine va_sld hx hb hX hbl hbA hS h_1 dL_law_204 ?_
  refine lv_aload_n hx hb dL_law_205 rfl (lv_at hl 0 rfl) ?_
  refine lv_iload_n hx hb dL_law_206 rfl (lv_at hl 3 rfl) ?_
  refine lv_iconst (v := 2) hx hb dL_law_207 (by decide) ?_
  refine lv_iadd hx hb dL_law_208 ?_
  refine va_sld hx hb hX hbl hbA hS h_2 dL_law_209 ?_
  refine lw_ci (va_runV (As := [.int (xs (nI i + 1).toNatClampNeg), .int (xs (nI i + 2).toNatClampNeg)]) (rest := []) ⟨hx, hb, hml, hown, hts⟩ (k_X11_system l D cA adr1 hJ1 0 (xs (nI i + 1).toNatClampNeg) (xs (nI i + 2).toNatClampNeg) hT1 M1 r M1' hc1) (cwV 2 hts hL_X11_system rfl rfl rfl (by decide +kernel) ⟨Nat.le_of_ble_eq_true rfl, Nat.le_of_ble_eq_true rfl⟩) ⟨smPc_bl, smRv hE hP1 hT1 rfl (ci := 11) (q := (RX11, TX11, 11)) rfl, smPc_in [.ref (adr1 0), .int (xs (nI i + 1).toNatClampNeg), .int (xs (nI i + 2).toNatClampNeg)] hE hP1⟩ rfl rfl hl.1 rfl (lv_room (Nat.le_of_ble_eq_true rfl)) dL_law_210 ⟨Nat.le_of_ble_eq_true rfl, Nat.le_of_ble_eq_true rfl⟩) hS hA1 hP2 hd1 (fun H locs hP1 hP2 hS => ?_)
  refine lv_aload_n hx hb dL_law_213 rfl (lv_at hl 2 rfl) ?_
  refine lv_aload_n hx hb dL_law_214 rfl (lv_at hl 0 rfl) ?_
  refine lv_iload_n hx hb dL_law_215 rfl (lv_at hl 3 rfl) ?_
  refine lv_iconst (v := 1) hx hb dL_law_216 (by decide) ?_
  refine lv_iadd hx hb dL_law_217 ?_
  refine va_sld hx hb hX hbl hbA hS h_1 dL_law_218 ?_
  refine lv_aload_n hx hb dL_law_219 rfl (lv_at hl 0 rfl) ?_
  refine lv_iload_n hx hb dL_law_220 rfl (lv_at hl 3 rfl) ?_
  refine lv_iconst (v := 2) hx hb dL_law_221 (by decide) ?_
  refine lv_iadd hx hb dL_law_222 ?_
  refine va_sld hx hb hX hbl hbA hS h_2 dL_law_223 ?_
  refine lw_ci (va_runV (As := [.int (xs (nI i + 1).toNatClampNeg), .int (xs (nI i + 2).toNatClampNeg)]) (rest := [.int r]) ⟨hx, hb, hml, hown, hts⟩ (k_X12_system l D cA adr2 hJ2 1000 (xs (nI i + 1).toNatClampNeg) (xs (nI i + 2).toNatClampNeg) hT2 M2 r M2' hc2) (cwV 2 hts hL_X12_system rfl rfl rfl (by decide +kernel) ⟨Nat.le_of_ble_eq_true rfl, Nat.le_of_ble_eq_true rfl⟩) ⟨smPc_bl, smRv hE hP2 hT2 rfl (ci := 12) (q := (RX12, TX12, 54)) rfl, smPc_in [.ref (adr2 1000), .int (xs (nI i + 1).toNatClampNeg), .int (xs (nI i + 2).toNatClampNeg)] hE hP2⟩ rfl rfl hl.1 rfl (lv_room (Nat.le_of_ble_eq_true rfl)) dL_law_224 ⟨Nat.le_of_ble_eq_true rfl, Nat.le_of_ble_eq_true rfl⟩) hS hA2 hP1 hd2 (fun H locs hP2 hP1 hS => ?_)
  refine lv_icmp_eq (tgt := 1282) hx hb dL_law_227 (by decide) (fun _ => ?_) (fun c => absurd rfl c)
  exact kk _ _ hR _ _ hP1 hP2 hS _ hl
set_option maxHeartbeats 4000000 in
set_option maxRecDepth 100000 in
theorem lw_op_put {p : Program} {l : Launch} {e : Env} {s : State} {m : MethodId} {below : List Frame} {meth : Method} {c : Code} {D : va_G} {cA : Nat → ClassId} {adr1 adr2 : Nat → Nat} {Rel : smM → smM → Prop} (hop : Op_put Rel) {b L : Nat} {xs : Nat → Int32} (hL : L ≤ 2560) (C0 : lw_At p s m meth c b L xs) (hE : smEnv D cA s) (hJ1 : smJ 1 adr1) (hJ2 : smJ 2 adr2) (hA1 : ∀ q, smA 1 adr1 q → s.heap.size ≤ q) (hA2 : ∀ q, smA 2 adr2 q → s.heap.size ≤ q) (hd1 : ∀ q, smA 2 adr2 q → ¬ smA 1 adr1 q) (hd2 : ∀ q, smA 1 adr1 q → ¬ smA 2 adr2 q) {i : Nat} (hi : i + 5 ≤ L) (kk : ∀ M1 M2, Rel M1 M2 → ∀ H locs, smP D cA 1 adr1 M1 H → smP D cA 2 adr2 M2 H → va_S (fun q : Nat => s.heap.size ≤ q) s.heap H locs → ∀ ls, lv_has ls 4 [(0, .ref b), (1, .ref (adr1 0)), (2, .ref (adr2 1000)), (3, .int (nI i))] → W p l e room_1 s m #[Value.ref b] below meth c H locs 548 6688 (lw_Z below #[Value.ref b] s) (F0 m 1282 ls [])) {M1 M2 : smM} (hR : Rel M1 M2) {H : Heap} {locs : List Loc} (hP1 : smP D cA 1 adr1 M1 H) (hP2 : smP D cA 2 adr2 M2 H) (hS : va_S (fun q : Nat => s.heap.size ≤ q) s.heap H locs) {ls : Array Slot} (hl : lv_has ls 4 [(0, .ref b), (1, .ref (adr1 0)), (2, .ref (adr2 1000)), (3, .int (nI i))]) : W p l e room_1 s m #[Value.ref b] below meth c H locs 548 6688 (lw_Z below #[Value.ref b] s) (F0 m 232 ls []) := by
  obtain ⟨hx, hb, hr, hml, hown, hts, hX, hbl, hlocks, hgv⟩ := C0
  have hown : s.vm.findClass RL = some m.cls := hown
  have hbA : ¬ (fun q : Nat => s.heap.size ≤ q) b := Nat.not_le.mpr hbl
  have hT1 : smT 1 0 11 := ⟨Nat.le_refl _, by decide, by decide +kernel⟩
  have hT2 : smT 2 1000 12 := ⟨Nat.le_refl _, by decide, by decide +kernel⟩
  have h_1 : vp_in (nI i + 1) L := lw_idx hi hL (by decide : 1 < 5) (lw_nIa i 1)
  have h_2 : vp_in (nI i + 2) L := lw_idx hi hL (by decide : 2 < 5) (lw_nIa i 2)
  have h_3 : vp_in (nI i + 3) L := lw_idx hi hL (by decide : 3 < 5) (lw_nIa i 3)
  have h_4 : vp_in (nI i + 4) L := lw_idx hi hL (by decide : 4 < 5) (lw_nIa i 4)
  obtain ⟨r, M1', M2', hc1, hc2, hR⟩ := hop M1 M2 hR (xs (nI i + 1).toNatClampNeg) (xs (nI i + 2).toNatClampNeg) (xs (nI i + 3).toNatClampNeg) (xs (nI i + 4).toNatClampNeg)
  refine lv_aload_n hx hb dL_law_232 rfl (lv_at hl 1 rfl) ?_
  refine lv_aload_n hx hb dL_law_233 rfl (lv_at hl 0 rfl) ?_
  refine lv_iload_n hx hb dL_law_234 rfl (lv_at hl 3 rfl) ?_
  refine lv_iconst (v := 1) hx hb dL_law_235 (by decide) ?_
  refine lv_iadd hx hb dL_law_236 ?_
  refine va_sld hx hb hX hbl hbA hS h_1 dL_law_237 ?_
  refine lv_aload_n hx hb dL_law_238 rfl (lv_at hl 0 rfl) ?_
  refine lv_iload_n hx hb dL_law_239 rfl (lv_at hl 3 rfl) ?_
  refine lv_iconst (v := 2) hx hb dL_law_240 (by decide) ?_
  refine lv_iadd hx hb dL_law_241 ?_
  refine va_sld hx hb hX hbl hbA hS h_2 dL_law_242 ?_
  refine lv_aload_n hx hb dL_law_243 rfl (lv_at hl 0 rfl) ?_
  refine lv_iload_n hx hb dL_law_244 rfl (lv_at hl 3 rfl) ?_
  refine lv_iconst (v := 3) hx hb dL_law_245 (by decide) ?_
  refine lv_iadd hx hb dL_law_246 ?_
  refine va_sld hx hb hX hbl hbA hS h_3 dL_law_247 ?_
  refine lv_aload_n hx hb dL_law_248 rfl (lv_at hl 0 rfl) ?_
  refine lv_iload_n hx hb dL_law_249 rfl (lv_at hl 3 rfl) ?_
  refine lv_iconst (v := 4) hx hb dL_law_250 (by decide) ?_
  refine lv_iadd hx hb dL_law_251 ?_
  refine va_sld hx hb hX hbl hbA hS h_4 dL_law_252 ?_
  refine lw_ci (va_runV (As := [.int (xs (nI i + 1).toNatClampNeg), .int (xs (nI i + 2).toNatClampNeg), .int (xs (nI i + 3).toNatClampNeg), .int (xs (nI i + 4).toNatClampNeg)]) (rest := []) ⟨hx, hb, hml, hown, hts⟩ (k_X11_put l D cA adr1 hJ1 0 (xs (nI i + 1).toNatClampNeg) (xs (nI i + 2).toNatClampNeg) (xs (nI i + 3).toNatClampNeg) (xs (nI i + 4).toNatClampNeg) hT1 M1 r M1' hc1) (cwV 4 hts hL_X11_put rfl rfl rfl (by decide +kernel) ⟨Nat.le_of_ble_eq_true rfl, Nat.le_of_ble_eq_true rfl⟩) ⟨smPc_bl, smRv hE hP1 hT1 rfl (ci := 11) (q := (RX11, TX11, 11)) rfl, smPc_in [.ref (adr1 0), .int (xs (nI i + 1).toNatClampNeg), .int (xs (nI i + 2).toNatClampNeg), .int (xs (nI i + 3).toNatClampNeg), .int (xs (nI i + 4).toNatClampNeg)] hE hP1⟩ rfl rfl hl.1 rfl (lv_room (Nat.le_of_ble_eq_true rfl)) dL_law_253 ⟨Nat.le_of_ble_eq_true rfl, Nat.le_of_ble_eq_true rfl⟩) hS hA1 hP2 hd1 (fun H locs hP1 hP2 hS => ?_)
  refine lv_aload_n hx hb dL_law_256 rfl (lv_at hl 2 rfl) ?_
  refine lv_aload_n hx hb dL_law_257 rfl (lv_at hl 0 rfl) ?_
  refine lv_iload_n hx hb dL_law_258 rfl (lv_at hl 3 rfl) ?_
  refine lv_iconst (v := 1) hx hb dL_law_259 (by decide) ?_
  refine lv_iadd hx hb dL_law_260 ?_
  refine va_sld hx hb hX hbl hbA hS h_1 dL_law_261 ?_
  refine lv_aload_n hx hb dL_law_262 rfl (lv_at hl 0 rfl) ?_
  refine lv_iload_n hx hb dL_law_263 rfl (lv_at hl 3 rfl) ?_
  refine lv_iconst (v := 2) hx hb dL_law_264 (by decide) ?_
  refine lv_iadd hx hb dL_law_265 ?_
  refine va_sld hx hb hX hbl hbA hS h_2 dL_law_266 ?_
  refine lv_aload_n hx hb dL_law_267 rfl (lv_at hl 0 rfl) ?_
  refine lv_iload_n hx hb dL_law_268 rfl (lv_at hl 3 rfl) ?_
  refine lv_iconst (v := 3) hx hb dL_law_269 (by decide) ?_
  refine lv_iadd hx hb dL_law_270 ?_
  refine va_sld hx hb hX hbl hbA hS h_3 dL_law_271 ?_
  refine lv_aload_n hx hb dL_law_272 rfl (lv_at hl 0 rfl) ?_
  refine lv_iload_n hx hb dL_law_273 rfl (lv_at hl 3 rfl) ?_
  refine lv_iconst (v := 4) hx hb dL_law_274 (by decide) ?_
  refine lv_iadd hx hb dL_law_275 ?_
  refine va_sld hx hb hX hbl hbA hS h_4 dL_law_276 ?_
  refine lw_ci (va_runV (As := [.int (xs (nI i + 1).toNatClampNeg), .int (xs (nI i + 2).toNatClampNeg), .int (xs (nI i + 3).toNatClampNeg), .int (xs (nI i + 4).toNatClampNeg)]) (rest := [.int r]) ⟨hx, hb, hml, hown, hts⟩ (k_X12_put l D cA adr2 hJ2 1000 (xs (nI i + 1).toNatClampNeg) (xs (nI i + 2).toNatClampNeg) (xs (nI i + 3).toNatClampNeg) (xs (nI i + 4).toNatClampNeg) hT2 M2 r M2' hc2) (cwV 4 hts hL_X12_put rfl rfl rfl (by decide +kernel) ⟨Nat.le_of_ble_eq_true rfl, Nat.le_of_ble_eq_true rfl⟩) ⟨smPc_bl, smRv hE hP2 hT2 rfl (ci := 12) (q := (RX12, TX12, 54)) rfl, smPc_in [.ref (adr2 1000), .int (xs (nI i + 1).toNatClampNeg), .int (xs (nI i + 2).toNatClampNeg), .int (xs (nI i + 3).toNatClampNeg), .int (xs (nI i + 4).toNatClampNeg)] hE hP2⟩ rfl rfl hl.1 rfl (lv_room (Nat.le_of_ble_eq_true rfl)) dL_law_277 ⟨Nat.le_of_ble_eq_true rfl, Nat.le_of_ble_eq_true rfl⟩) hS hA2 hP1 hd2 (fun H locs hP2 hP1 hS => ?_)
  refine lv_icmp_eq (tgt := 1282) hx hb dL_law_280 (by decide) (fun _ => ?_) (fun c => absurd rfl c)
  exact kk _ _ hR _ _ hP1 hP2 hS _ hl
set_option maxHeartbeats 4000000 in
set_option maxRecDepth 100000 in
theorem lw_op_get {p : Program} {l : Launch} {e : Env} {s : State} {m : MethodId} {below : List Frame} {meth : Method} {c : Code} {D : va_G} {cA : Nat → ClassId} {adr1 adr2 : Nat → Nat} {Rel : smM → smM → Prop} (hop : Op_get Rel) {b L : Nat} {xs : Nat → Int32} (hL : L ≤ 2560) (C0 : lw_At p s m meth c b L xs) (hE : smEnv D cA s) (hJ1 : smJ 1 adr1) (hJ2 : smJ 2 adr2) (hA1 : ∀ q, smA 1 adr1 q → s.heap.size ≤ q) (hA2 : ∀ q, smA 2 adr2 q → s.heap.size ≤ q) (hd1 : ∀ q, smA 2 adr2 q → ¬ smA 1 adr1 q) (hd2 : ∀ q, smA 1 adr1 q → ¬ smA 2 adr2 q) {i : Nat} (hi : i + 5 ≤ L) (kk : ∀ M1 M2, Rel M1 M2 → ∀ H locs, smP D cA 1 adr1 M1 H → smP D cA 2 adr2 M2 H → va_S (fun q : Nat => s.heap.size ≤ q) s.heap H locs → ∀ ls, lv_has ls 4 [(0, .ref b), (1, .ref (adr1 0)), (2, .ref (adr2 1000)), (3, .int (nI i))] → W p l e room_1 s m #[Value.ref b] below meth c H locs 548 6688 (lw_Z below #[Value.ref b] s) (F0 m 1282 ls [])) {M1 M2 : smM} (hR : Rel M1 M2) {H : Heap} {locs : List Loc} (hP1 : smP D cA 1 adr1 M1 H) (hP2 : smP D cA 2 adr2 M2 H) (hS : va_S (fun q : Nat => s.heap.size ≤ q) s.heap H locs) {ls : Array Slot} (hl : lv_has ls 4 [(0, .ref b), (1, .ref (adr1 0)), (2, .ref (adr2 1000)), (3, .int (nI i))]) : W p l e room_1 s m #[Value.ref b] below meth c H locs 548 6688 (lw_Z below #[Value.ref b] s) (F0 m 285 ls []) := by
  obtain ⟨hx, hb, hr, hml, hown, hts, hX, hbl, hlocks, hgv⟩ := C0
  have hown : s.vm.findClass RL = some m.cls := hown
  have hbA : ¬ (fun q : Nat => s.heap.size ≤ q) b := Nat.not_le.mpr hbl
  have hT1 : smT 1 0 11 := ⟨Nat.le_refl _, by decide, by decide +kernel⟩
  have hT2 : smT 2 1000 12 := ⟨Nat.le_refl _, by decide, by decide +kernel⟩
  have h_1 : vp_in (nI i + 1) L := lw_idx hi hL (by decide : 1 < 5) (lw_nIa i 1)
  have h_2 : vp_in (nI i + 2) L := lw_idx hi hL (by decide : 2 < 5) (lw_nIa i 2)
  have h_3 : vp_in (nI i + 3) L := lw_idx hi hL (by decide : 3 < 5) (lw_nIa i 3)
  obtain ⟨r, hc1, hc2, hR⟩ := hop M1 M2 hR (xs (nI i + 1).toNatClampNeg) (xs (nI i + 2).toNatClampNeg) (xs (nI i + 3).toNatClampNeg)
  refine lv_aload_n hx hb dL_law_285 rfl (lv_at hl 1 rfl) ?_
  refine lv_aload_n hx hb dL_law_286 rfl (lv_at hl 0 rfl) ?_
  refine lv_iload_n hx hb dL_law_287 rfl (lv_at hl 3 rfl) ?_
  refine lv_iconst (v := 1) hx hb dL_law_288 (by decide) ?_
  refine lv_iadd hx hb dL_law_289 ?_
  refine va_sld hx hb hX hbl hbA hS h_1 dL_law_290 ?_
  refine lv_aload_n hx hb dL_law_291 rfl (lv_at hl 0 rfl) ?_
  refine lv_iload_n hx hb dL_law_292 rfl (lv_at hl 3 rfl) ?_
  refine lv_iconst (v := 2) hx hb dL_law_293 (by decide) ?_
  refine lv_iadd hx hb dL_law_294 ?_
  refine va_sld hx hb hX hbl hbA hS h_2 dL_law_295 ?_
  refine lv_aload_n hx hb dL_law_296 rfl (lv_at hl 0 rfl) ?_
  refine lv_iload_n hx hb dL_law_297 rfl (lv_at hl 3 rfl) ?_
  refine lv_iconst (v := 3) hx hb dL_law_298 (by decide) ?_
  refine lv_iadd hx hb dL_law_299 ?_
  refine va_sld hx hb hX hbl hbA hS h_3 dL_law_300 ?_
  refine lw_ci (va_runV (As := [.int (xs (nI i + 1).toNatClampNeg), .int (xs (nI i + 2).toNatClampNeg), .int (xs (nI i + 3).toNatClampNeg)]) (rest := []) ⟨hx, hb, hml, hown, hts⟩ (k_X11_get l D cA adr1 hJ1 0 (xs (nI i + 1).toNatClampNeg) (xs (nI i + 2).toNatClampNeg) (xs (nI i + 3).toNatClampNeg) hT1 M1 r hc1) (cwV 3 hts hL_X11_get rfl rfl rfl (by decide +kernel) ⟨Nat.le_of_ble_eq_true rfl, Nat.le_of_ble_eq_true rfl⟩) ⟨smPc_bl, smRv hE hP1 hT1 rfl (ci := 11) (q := (RX11, TX11, 11)) rfl, smPc_in [.ref (adr1 0), .int (xs (nI i + 1).toNatClampNeg), .int (xs (nI i + 2).toNatClampNeg), .int (xs (nI i + 3).toNatClampNeg)] hE hP1⟩ rfl rfl hl.1 rfl (lv_room (Nat.le_of_ble_eq_true rfl)) dL_law_301 ⟨Nat.le_of_ble_eq_true rfl, Nat.le_of_ble_eq_true rfl⟩) hS hA1 hP2 hd1 (fun H locs hP1 hP2 hS => ?_)
  refine lv_aload_n hx hb dL_law_304 rfl (lv_at hl 2 rfl) ?_
  refine lv_aload_n hx hb dL_law_305 rfl (lv_at hl 0 rfl) ?_
  refine lv_iload_n hx hb dL_law_306 rfl (lv_at hl 3 rfl) ?_
  refine lv_iconst (v := 1) hx hb dL_law_307 (by decide) ?_
  refine lv_iadd hx hb dL_law_308 ?_
  refine va_sld hx hb hX hbl hbA hS h_1 dL_law_309 ?_
  refine lv_aload_n hx hb dL_law_310 rfl (lv_at hl 0 rfl) ?_
  refine lv_iload_n hx hb dL_law_311 rfl (lv_at hl 3 rfl) ?_
  refine lv_iconst (v := 2) hx hb dL_law_312 (by decide) ?_
  refine lv_iadd hx hb dL_law_313 ?_
  refine va_sld hx hb hX hbl hbA hS h_2 dL_law_314 ?_
  refine lv_aload_n hx hb dL_law_315 rfl (lv_at hl 0 rfl) ?_
  refine lv_iload_n hx hb dL_law_316 rfl (lv_at hl 3 rfl) ?_
  refine lv_iconst (v := 3) hx hb dL_law_317 (by decide) ?_
  refine lv_iadd hx hb dL_law_318 ?_
  refine va_sld hx hb hX hbl hbA hS h_3 dL_law_319 ?_
  refine lw_ci (va_runV (As := [.int (xs (nI i + 1).toNatClampNeg), .int (xs (nI i + 2).toNatClampNeg), .int (xs (nI i + 3).toNatClampNeg)]) (rest := [.int r]) ⟨hx, hb, hml, hown, hts⟩ (k_X12_get l D cA adr2 hJ2 1000 (xs (nI i + 1).toNatClampNeg) (xs (nI i + 2).toNatClampNeg) (xs (nI i + 3).toNatClampNeg) hT2 M2 r hc2) (cwV 3 hts hL_X12_get rfl rfl rfl (by decide +kernel) ⟨Nat.le_of_ble_eq_true rfl, Nat.le_of_ble_eq_true rfl⟩) ⟨smPc_bl, smRv hE hP2 hT2 rfl (ci := 12) (q := (RX12, TX12, 54)) rfl, smPc_in [.ref (adr2 1000), .int (xs (nI i + 1).toNatClampNeg), .int (xs (nI i + 2).toNatClampNeg), .int (xs (nI i + 3).toNatClampNeg)] hE hP2⟩ rfl rfl hl.1 rfl (lv_room (Nat.le_of_ble_eq_true rfl)) dL_law_320 ⟨Nat.le_of_ble_eq_true rfl, Nat.le_of_ble_eq_true rfl⟩) hS hA2 hP1 hd2 (fun H locs hP2 hP1 hS => ?_)
  refine lv_icmp_eq (tgt := 1282) hx hb dL_law_323 (by decide) (fun _ => ?_) (fun c => absurd rfl c)
  exact kk _ _ hR _ _ hP1 hP2 hS _ hl
set_option maxHeartbeats 4000000 in
set_option maxRecDepth 100000 in
theorem lw_op_weights {p : Program} {l : Launch} {e : Env} {s : State} {m : MethodId} {below : List Frame} {meth : Method} {c : Code} {D : va_G} {cA : Nat → ClassId} {adr1 adr2 : Nat → Nat} {Rel : smM → smM → Prop} (hop : Op_weights Rel) {b L : Nat} {xs : Nat → Int32} (hL : L ≤ 2560) (C0 : lw_At p s m meth c b L xs) (hE : smEnv D cA s) (hJ1 : smJ 1 adr1) (hJ2 : smJ 2 adr2) (hA1 : ∀ q, smA 1 adr1 q → s.heap.size ≤ q) (hA2 : ∀ q, smA 2 adr2 q → s.heap.size ≤ q) (hd1 : ∀ q, smA 2 adr2 q → ¬ smA 1 adr1 q) (hd2 : ∀ q, smA 1 adr1 q → ¬ smA 2 adr2 q) {i : Nat} (hi : i + 5 ≤ L) (kk : ∀ M1 M2, Rel M1 M2 → ∀ H locs, smP D cA 1 adr1 M1 H → smP D cA 2 adr2 M2 H → va_S (fun q : Nat => s.heap.size ≤ q) s.heap H locs → ∀ ls, lv_has ls 4 [(0, .ref b), (1, .ref (adr1 0)), (2, .ref (adr2 1000)), (3, .int (nI i))] → W p l e room_1 s m #[Value.ref b] below meth c H locs 548 6688 (lw_Z below #[Value.ref b] s) (F0 m 1282 ls [])) {M1 M2 : smM} (hR : Rel M1 M2) {H : Heap} {locs : List Loc} (hP1 : smP D cA 1 adr1 M1 H) (hP2 : smP D cA 2 adr2 M2 H) (hS : va_S (fun q : Nat => s.heap.size ≤ q) s.heap H locs) {ls : Array Slot} (hl : lv_has ls 4 [(0, .ref b), (1, .ref (adr1 0)), (2, .ref (adr2 1000)), (3, .int (nI i))]) : W p l e room_1 s m #[Value.ref b] below meth c H locs 548 6688 (lw_Z below #[Value.ref b] s) (F0 m 328 ls []) := by
  obtain ⟨hx, hb, hr, hml, hown, hts, hX, hbl, hlocks, hgv⟩ := C0
  have hown : s.vm.findClass RL = some m.cls := hown
  have hbA : ¬ (fun q : Nat => s.heap.size ≤ q) b := Nat.not_le.mpr hbl
  have hT1 : smT 1 0 11 := ⟨Nat.le_refl _, by decide, by decide +kernel⟩
  have hT2 : smT 2 1000 12 := ⟨Nat.le_refl _, by decide, by decide +kernel⟩
  have h_1 : vp_in (nI i + 1) L := lw_idx hi hL (by decide : 1 < 5) (lw_nIa i 1)
  have h_2 : vp_in (nI i + 2) L := lw_idx hi hL (by decide : 2 < 5) (lw_nIa i 2)
  obtain ⟨r, M1', M2', hc1, hc2, hR⟩ := hop M1 M2 hR (xs (nI i + 1).toNatClampNeg) (xs (nI i + 2).toNatClampNeg)
  refine lv_aload_n hx hb dL_law_328 rfl (lv_at hl 1 rfl) ?_
  refine lv_aload_n hx hb dL_law_329 rfl (lv_at hl 0 rfl) ?_
  refine lv_iload_n hx hb dL_law_330 rfl (lv_at hl 3 rfl) ?_
  refine lv_iconst (v := 1) hx hb dL_law_331 (by decide) ?_
  refine lv_iadd hx hb dL_law_332 ?_
  refine va_sld hx hb hX hbl hbA hS h_1 dL_law_333 ?_
  refine lv_aload_n hx hb dL_law_334 rfl (lv_at hl 0 rfl) ?_
  refine lv_iload_n hx hb dL_law_335 rfl (lv_at hl 3 rfl) ?_
  refine lv_iconst (v := 2) hx hb dL_law_336 (by decide) ?_
  refine lv_iadd hx hb dL_law_337 ?_
  refine va_sld hx hb hX hbl hbA hS h_2 dL_law_338 ?_
  refine lw_ci (va_runV (As := [.int (xs (nI i + 1).toNatClampNeg), .int (xs (nI i + 2).toNatClampNeg)]) (rest := []) ⟨hx, hb, hml, hown, hts⟩ (k_X11_weights l D cA adr1 hJ1 0 (xs (nI i + 1).toNatClampNeg) (xs (nI i + 2).toNatClampNeg) hT1 M1 r M1' hc1) (cwV 2 hts hL_X11_weights rfl rfl rfl (by decide +kernel) ⟨Nat.le_of_ble_eq_true rfl, Nat.le_of_ble_eq_true rfl⟩) ⟨smPc_bl, smRv hE hP1 hT1 rfl (ci := 11) (q := (RX11, TX11, 11)) rfl, smPc_in [.ref (adr1 0), .int (xs (nI i + 1).toNatClampNeg), .int (xs (nI i + 2).toNatClampNeg)] hE hP1⟩ rfl rfl hl.1 rfl (lv_room (Nat.le_of_ble_eq_true rfl)) dL_law_339 ⟨Nat.le_of_ble_eq_true rfl, Nat.le_of_ble_eq_true rfl⟩) hS hA1 hP2 hd1 (fun H locs hP1 hP2 hS => ?_)
  refine lv_aload_n hx hb dL_law_342 rfl (lv_at hl 2 rfl) ?_
  refine lv_aload_n hx hb dL_law_343 rfl (lv_at hl 0 rfl) ?_
  refine lv_iload_n hx hb dL_law_344 rfl (lv_at hl 3 rfl) ?_
  refine lv_iconst (v := 1) hx hb dL_law_345 (by decide) ?_
  refine lv_iadd hx hb dL_law_346 ?_
  refine va_sld hx hb hX hbl hbA hS h_1 dL_law_347 ?_
  refine lv_aload_n hx hb dL_law_348 rfl (lv_at hl 0 rfl) ?_
  refine lv_iload_n hx hb dL_law_349 rfl (lv_at hl 3 rfl) ?_
  refine lv_iconst (v := 2) hx hb dL_law_350 (by decide) ?_
  refine lv_iadd hx hb dL_law_351 ?_
  refine va_sld hx hb hX hbl hbA hS h_2 dL_law_352 ?_
  refine lw_ci (va_runV (As := [.int (xs (nI i + 1).toNatClampNeg), .int (xs (nI i + 2).toNatClampNeg)]) (rest := [.int r]) ⟨hx, hb, hml, hown, hts⟩ (k_X12_weights l D cA adr2 hJ2 1000 (xs (nI i + 1).toNatClampNeg) (xs (nI i + 2).toNatClampNeg) hT2 M2 r M2' hc2) (cwV 2 hts hL_X12_weights rfl rfl rfl (by decide +kernel) ⟨Nat.le_of_ble_eq_true rfl, Nat.le_of_ble_eq_true rfl⟩) ⟨smPc_bl, smRv hE hP2 hT2 rfl (ci := 12) (q := (RX12, TX12, 54)) rfl, smPc_in [.ref (adr2 1000), .int (xs (nI i + 1).toNatClampNeg), .int (xs (nI i + 2).toNatClampNeg)] hE hP2⟩ rfl rfl hl.1 rfl (lv_room (Nat.le_of_ble_eq_true rfl)) dL_law_353 ⟨Nat.le_of_ble_eq_true rfl, Nat.le_of_ble_eq_true rfl⟩) hS hA2 hP1 hd2 (fun H locs hP2 hP1 hS => ?_)
  refine lv_icmp_eq (tgt := 1282) hx hb dL_law_356 (by decide) (fun _ => ?_) (fun c => absurd rfl c)
  exact kk _ _ hR _ _ hP1 hP2 hS _ hl
set_option maxHeartbeats 4000000 in
set_option maxRecDepth 100000 in
theorem lw_op_drift {p : Program} {l : Launch} {e : Env} {s : State} {m : MethodId} {below : List Frame} {meth : Method} {c : Code} {D : va_G} {cA : Nat → ClassId} {adr1 adr2 : Nat → Nat} {Rel : smM → smM → Prop} (hop : Op_drift Rel) {b L : Nat} {xs : Nat → Int32} (hL : L ≤ 2560) (C0 : lw_At p s m meth c b L xs) (hE : smEnv D cA s) (hJ1 : smJ 1 adr1) (hJ2 : smJ 2 adr2) (hA1 : ∀ q, smA 1 adr1 q → s.heap.size ≤ q) (hA2 : ∀ q, smA 2 adr2 q → s.heap.size ≤ q) (hd1 : ∀ q, smA 2 adr2 q → ¬ smA 1 adr1 q) (hd2 : ∀ q, smA 1 adr1 q → ¬ smA 2 adr2 q) {i : Nat} (hi : i + 5 ≤ L) (kk : ∀ M1 M2, Rel M1 M2 → ∀ H locs, smP D cA 1 adr1 M1 H → smP D cA 2 adr2 M2 H → va_S (fun q : Nat => s.heap.size ≤ q) s.heap H locs → ∀ ls, lv_has ls 4 [(0, .ref b), (1, .ref (adr1 0)), (2, .ref (adr2 1000)), (3, .int (nI i))] → W p l e room_1 s m #[Value.ref b] below meth c H locs 548 6688 (lw_Z below #[Value.ref b] s) (F0 m 1282 ls [])) {M1 M2 : smM} (hR : Rel M1 M2) {H : Heap} {locs : List Loc} (hP1 : smP D cA 1 adr1 M1 H) (hP2 : smP D cA 2 adr2 M2 H) (hS : va_S (fun q : Nat => s.heap.size ≤ q) s.heap H locs) {ls : Array Slot} (hl : lv_has ls 4 [(0, .ref b), (1, .ref (adr1 0)), (2, .ref (adr2 1000)), (3, .int (nI i))]) : W p l e room_1 s m #[Value.ref b] below meth c H locs 548 6688 (lw_Z below #[Value.ref b] s) (F0 m 361 ls []) := by
  obtain ⟨hx, hb, hr, hml, hown, hts, hX, hbl, hlocks, hgv⟩ := C0
  have hown : s.vm.findClass RL = some m.cls := hown
  have hbA : ¬ (fun q : Nat => s.heap.size ≤ q) b := Nat.not_le.mpr hbl
  have hT1 : smT 1 0 11 := ⟨Nat.le_refl _, by decide, by decide +kernel⟩
  have hT2 : smT 2 1000 12 := ⟨Nat.le_refl _, by decide, by decide +kernel⟩
  have h_1 : vp_in (nI i + 1) L := lw_idx hi hL (by decide : 1 < 5) (lw_nIa i 1)
  obtain ⟨r, M1', M2', hc1, hc2, hR⟩ := hop M1 M2 hR (xs (nI i + 1).toNatClampNeg)
  refine lv_aload_n hx hb dL_law_361 rfl (lv_at hl 1 rfl) ?_
  refine lv_aload_n hx hb dL_law_362 rfl (lv_at hl 0 rfl) ?_
  refine lv_iload_n hx hb dL_law_363 rfl (lv_at hl 3 rfl) ?_
  refine lv_iconst (v := 1) hx hb dL_law_364 (by decide) ?_
  refine lv_iadd hx hb dL_law_365 ?_
  refine va_sld hx hb hX hbl hbA hS h_1 dL_law_366 ?_
  refine lw_ci (va_runV (As := [.int (xs (nI i + 1).toNatClampNeg)]) (rest := []) ⟨hx, hb, hml, hown, hts⟩ (k_X11_drift l D cA adr1 hJ1 0 (xs (nI i + 1).toNatClampNeg) hT1 M1 r M1' hc1) (cwV 1 hts hL_X11_drift rfl rfl rfl (by decide +kernel) ⟨Nat.le_of_ble_eq_true rfl, Nat.le_of_ble_eq_true rfl⟩) ⟨smPc_bl, smRv hE hP1 hT1 rfl (ci := 11) (q := (RX11, TX11, 11)) rfl, smPc_in [.ref (adr1 0), .int (xs (nI i + 1).toNatClampNeg)] hE hP1⟩ rfl rfl hl.1 rfl (lv_room (Nat.le_of_ble_eq_true rfl)) dL_law_367 ⟨Nat.le_of_ble_eq_true rfl, Nat.le_of_ble_eq_true rfl⟩) hS hA1 hP2 hd1 (fun H locs hP1 hP2 hS => ?_)
  refine lv_aload_n hx hb dL_law_370 rfl (lv_at hl 2 rfl) ?_
  refine lv_aload_n hx hb dL_law_371 rfl (lv_at hl 0 rfl) ?_
  refine lv_iload_n hx hb dL_law_372 rfl (lv_at hl 3 rfl) ?_
  refine lv_iconst (v := 1) hx hb dL_law_373 (by decide) ?_
  refine lv_iadd hx hb dL_law_374 ?_
  refine va_sld hx hb hX hbl hbA hS h_1 dL_law_375 ?_
  refine lw_ci (va_runV (As := [.int (xs (nI i + 1).toNatClampNeg)]) (rest := [.int r]) ⟨hx, hb, hml, hown, hts⟩ (k_X12_drift l D cA adr2 hJ2 1000 (xs (nI i + 1).toNatClampNeg) hT2 M2 r M2' hc2) (cwV 1 hts hL_X12_drift rfl rfl rfl (by decide +kernel) ⟨Nat.le_of_ble_eq_true rfl, Nat.le_of_ble_eq_true rfl⟩) ⟨smPc_bl, smRv hE hP2 hT2 rfl (ci := 12) (q := (RX12, TX12, 54)) rfl, smPc_in [.ref (adr2 1000), .int (xs (nI i + 1).toNatClampNeg)] hE hP2⟩ rfl rfl hl.1 rfl (lv_room (Nat.le_of_ble_eq_true rfl)) dL_law_376 ⟨Nat.le_of_ble_eq_true rfl, Nat.le_of_ble_eq_true rfl⟩) hS hA2 hP1 hd2 (fun H locs hP2 hP1 hS => ?_)
  refine lv_icmp_eq (tgt := 1282) hx hb dL_law_379 (by decide) (fun _ => ?_) (fun c => absurd rfl c)
  exact kk _ _ hR _ _ hP1 hP2 hS _ hl
set_option maxHeartbeats 4000000 in
set_option maxRecDepth 100000 in
theorem lw_op_count {p : Program} {l : Launch} {e : Env} {s : State} {m : MethodId} {below : List Frame} {meth : Method} {c : Code} {D : va_G} {cA : Nat → ClassId} {adr1 adr2 : Nat → Nat} {Rel : smM → smM → Prop} (hop : Op_count Rel) {b L : Nat} {xs : Nat → Int32} (hL : L ≤ 2560) (C0 : lw_At p s m meth c b L xs) (hE : smEnv D cA s) (hJ1 : smJ 1 adr1) (hJ2 : smJ 2 adr2) (hA1 : ∀ q, smA 1 adr1 q → s.heap.size ≤ q) (hA2 : ∀ q, smA 2 adr2 q → s.heap.size ≤ q) (hd1 : ∀ q, smA 2 adr2 q → ¬ smA 1 adr1 q) (hd2 : ∀ q, smA 1 adr1 q → ¬ smA 2 adr2 q) {i : Nat} (hi : i + 5 ≤ L) (kk : ∀ M1 M2, Rel M1 M2 → ∀ H locs, smP D cA 1 adr1 M1 H → smP D cA 2 adr2 M2 H → va_S (fun q : Nat => s.heap.size ≤ q) s.heap H locs → ∀ ls, lv_has ls 4 [(0, .ref b), (1, .ref (adr1 0)), (2, .ref (adr2 1000)), (3, .int (nI i))] → W p l e room_1 s m #[Value.ref b] below meth c H locs 548 6688 (lw_Z below #[Value.ref b] s) (F0 m 1282 ls [])) {M1 M2 : smM} (hR : Rel M1 M2) {H : Heap} {locs : List Loc} (hP1 : smP D cA 1 adr1 M1 H) (hP2 : smP D cA 2 adr2 M2 H) (hS : va_S (fun q : Nat => s.heap.size ≤ q) s.heap H locs) {ls : Array Slot} (hl : lv_has ls 4 [(0, .ref b), (1, .ref (adr1 0)), (2, .ref (adr2 1000)), (3, .int (nI i))]) : W p l e room_1 s m #[Value.ref b] below meth c H locs 548 6688 (lw_Z below #[Value.ref b] s) (F0 m 384 ls []) := by
  obtain ⟨hx, hb, hr, hml, hown, hts, hX, hbl, hlocks, hgv⟩ := C0
  have hown : s.vm.findClass RL = some m.cls := hown
  have hbA : ¬ (fun q : Nat => s.heap.size ≤ q) b := Nat.not_le.mpr hbl
  have hT1 : smT 1 0 11 := ⟨Nat.le_refl _, by decide, by decide +kernel⟩
  have hT2 : smT 2 1000 12 := ⟨Nat.le_refl _, by decide, by decide +kernel⟩
  have h_1 : vp_in (nI i + 1) L := lw_idx hi hL (by decide : 1 < 5) (lw_nIa i 1)
  obtain ⟨r, M1', M2', hc1, hc2, hR⟩ := hop M1 M2 hR (xs (nI i + 1).toNatClampNeg)
  refine lv_aload_n hx hb dL_law_384 rfl (lv_at hl 1 rfl) ?_
  refine lv_aload_n hx hb dL_law_385 rfl (lv_at hl 0 rfl) ?_
  refine lv_iload_n hx hb dL_law_386 rfl (lv_at hl 3 rfl) ?_
  refine lv_iconst (v := 1) hx hb dL_law_387 (by decide) ?_
  refine lv_iadd hx hb dL_law_388 ?_
  refine va_sld hx hb hX hbl hbA hS h_1 dL_law_389 ?_
  refine lw_ci (va_runV (As := [.int (xs (nI i + 1).toNatClampNeg)]) (rest := []) ⟨hx, hb, hml, hown, hts⟩ (k_X11_count l D cA adr1 hJ1 0 (xs (nI i + 1).toNatClampNeg) hT1 M1 r M1' hc1) (cwV 1 hts hL_X11_count rfl rfl rfl (by decide +kernel) ⟨Nat.le_of_ble_eq_true rfl, Nat.le_of_ble_eq_true rfl⟩) ⟨smPc_bl, smRv hE hP1 hT1 rfl (ci := 11) (q := (RX11, TX11, 11)) rfl, smPc_in [.ref (adr1 0), .int (xs (nI i + 1).toNatClampNeg)] hE hP1⟩ rfl rfl hl.1 rfl (lv_room (Nat.le_of_ble_eq_true rfl)) dL_law_390 ⟨Nat.le_of_ble_eq_true rfl, Nat.le_of_ble_eq_true rfl⟩) hS hA1 hP2 hd1 (fun H locs hP1 hP2 hS => ?_)
  refine lv_aload_n hx hb dL_law_393 rfl (lv_at hl 2 rfl) ?_
  refine lv_aload_n hx hb dL_law_394 rfl (lv_at hl 0 rfl) ?_
  refine lv_iload_n hx hb dL_law_395 rfl (lv_at hl 3 rfl) ?_
  refine lv_iconst (v := 1) hx hb dL_law_396 (by decide) ?_
  refine lv_iadd hx hb dL_law_397 ?_
  refine va_sld hx hb hX hbl hbA hS h_1 dL_law_398 ?_
  refine lw_ci (va_runV (As := [.int (xs (nI i + 1).toNatClampNeg)]) (rest := [.int r]) ⟨hx, hb, hml, hown, hts⟩ (k_X12_count l D cA adr2 hJ2 1000 (xs (nI i + 1).toNatClampNeg) hT2 M2 r M2' hc2) (cwV 1 hts hL_X12_count rfl rfl rfl (by decide +kernel) ⟨Nat.le_of_ble_eq_true rfl, Nat.le_of_ble_eq_true rfl⟩) ⟨smPc_bl, smRv hE hP2 hT2 rfl (ci := 12) (q := (RX12, TX12, 54)) rfl, smPc_in [.ref (adr2 1000), .int (xs (nI i + 1).toNatClampNeg)] hE hP2⟩ rfl rfl hl.1 rfl (lv_room (Nat.le_of_ble_eq_true rfl)) dL_law_399 ⟨Nat.le_of_ble_eq_true rfl, Nat.le_of_ble_eq_true rfl⟩) hS hA2 hP1 hd2 (fun H locs hP2 hP1 hS => ?_)
  refine lv_icmp_eq (tgt := 1282) hx hb dL_law_402 (by decide) (fun _ => ?_) (fun c => absurd rfl c)
  exact kk _ _ hR _ _ hP1 hP2 hS _ hl
set_option maxHeartbeats 4000000 in
set_option maxRecDepth 100000 in
theorem lw_op_base {p : Program} {l : Launch} {e : Env} {s : State} {m : MethodId} {below : List Frame} {meth : Method} {c : Code} {D : va_G} {cA : Nat → ClassId} {adr1 adr2 : Nat → Nat} {Rel : smM → smM → Prop} (hop : Op_base Rel) {b L : Nat} {xs : Nat → Int32} (hL : L ≤ 2560) (C0 : lw_At p s m meth c b L xs) (hE : smEnv D cA s) (hJ1 : smJ 1 adr1) (hJ2 : smJ 2 adr2) (hA1 : ∀ q, smA 1 adr1 q → s.heap.size ≤ q) (hA2 : ∀ q, smA 2 adr2 q → s.heap.size ≤ q) (hd1 : ∀ q, smA 2 adr2 q → ¬ smA 1 adr1 q) (hd2 : ∀ q, smA 1 adr1 q → ¬ smA 2 adr2 q) {i : Nat} (hi : i + 5 ≤ L) (kk : ∀ M1 M2, Rel M1 M2 → ∀ H locs, smP D cA 1 adr1 M1 H → smP D cA 2 adr2 M2 H → va_S (fun q : Nat => s.heap.size ≤ q) s.heap H locs → ∀ ls, lv_has ls 4 [(0, .ref b), (1, .ref (adr1 0)), (2, .ref (adr2 1000)), (3, .int (nI i))] → W p l e room_1 s m #[Value.ref b] below meth c H locs 548 6688 (lw_Z below #[Value.ref b] s) (F0 m 1282 ls [])) {M1 M2 : smM} (hR : Rel M1 M2) {H : Heap} {locs : List Loc} (hP1 : smP D cA 1 adr1 M1 H) (hP2 : smP D cA 2 adr2 M2 H) (hS : va_S (fun q : Nat => s.heap.size ≤ q) s.heap H locs) {ls : Array Slot} (hl : lv_has ls 4 [(0, .ref b), (1, .ref (adr1 0)), (2, .ref (adr2 1000)), (3, .int (nI i))]) : W p l e room_1 s m #[Value.ref b] below meth c H locs 548 6688 (lw_Z below #[Value.ref b] s) (F0 m 407 ls []) := by
  obtain ⟨hx, hb, hr, hml, hown, hts, hX, hbl, hlocks, hgv⟩ := C0
  have hown : s.vm.findClass RL = some m.cls := hown
  have hbA : ¬ (fun q : Nat => s.heap.size ≤ q) b := Nat.not_le.mpr hbl
  have hT1 : smT 1 0 11 := ⟨Nat.le_refl _, by decide, by decide +kernel⟩
  have hT2 : smT 2 1000 12 := ⟨Nat.le_refl _, by decide, by decide +kernel⟩
  have h_1 : vp_in (nI i + 1) L := lw_idx hi hL (by decide : 1 < 5) (lw_nIa i 1)
  have h_2 : vp_in (nI i + 2) L := lw_idx hi hL (by decide : 2 < 5) (lw_nIa i 2)
  obtain ⟨r, M1', M2', hc1, hc2, hR⟩ := hop M1 M2 hR (xs (nI i + 1).toNatClampNeg) (xs (nI i + 2).toNatClampNeg)
  refine lv_aload_n hx hb dL_law_407 rfl (lv_at hl 1 rfl) ?_
  refine lv_aload_n hx hb dL_law_408 rfl (lv_at hl 0 rfl) ?_
  refine lv_iload_n hx hb dL_law_409 rfl (lv_at hl 3 rfl) ?_
  refine lv_iconst (v := 1) hx hb dL_law_410 (by decide) ?_
  refine lv_iadd hx hb dL_law_411 ?_
  refine va_sld hx hb hX hbl hbA hS h_1 dL_law_412 ?_
  refine lv_aload_n hx hb dL_law_413 rfl (lv_at hl 0 rfl) ?_
  refine lv_iload_n hx hb dL_law_414 rfl (lv_at hl 3 rfl) ?_
  refine lv_iconst (v := 2) hx hb dL_law_415 (by decide) ?_
  refine lv_iadd hx hb dL_law_416 ?_
  refine va_sld hx hb hX hbl hbA hS h_2 dL_law_417 ?_
  refine lw_ci (va_runV (As := [.int (xs (nI i + 1).toNatClampNeg), .int (xs (nI i + 2).toNatClampNeg)]) (rest := []) ⟨hx, hb, hml, hown, hts⟩ (k_X11_base l D cA adr1 hJ1 0 (xs (nI i + 1).toNatClampNeg) (xs (nI i + 2).toNatClampNeg) hT1 M1 r M1' hc1) (cwV 2 hts hL_X11_base rfl rfl rfl (by decide +kernel) ⟨Nat.le_of_ble_eq_true rfl, Nat.le_of_ble_eq_true rfl⟩) ⟨smPc_bl, smRv hE hP1 hT1 rfl (ci := 11) (q := (RX11, TX11, 11)) rfl, smPc_in [.ref (adr1 0), .int (xs (nI i + 1).toNatClampNeg), .int (xs (nI i + 2).toNatClampNeg)] hE hP1⟩ rfl rfl hl.1 rfl (lv_room (Nat.le_of_ble_eq_true rfl)) dL_law_418 ⟨Nat.le_of_ble_eq_true rfl, Nat.le_of_ble_eq_true rfl⟩) hS hA1 hP2 hd1 (fun H locs hP1 hP2 hS => ?_)
  refine lv_aload_n hx hb dL_law_421 rfl (lv_at hl 2 rfl) ?_
  refine lv_aload_n hx hb dL_law_422 rfl (lv_at hl 0 rfl) ?_
  refine lv_iload_n hx hb dL_law_423 rfl (lv_at hl 3 rfl) ?_
  refine lv_iconst (v := 1) hx hb dL_law_424 (by decide) ?_
  refine lv_iadd hx hb dL_law_425 ?_
  refine va_sld hx hb hX hbl hbA hS h_1 dL_law_426 ?_
  refine lv_aload_n hx hb dL_law_427 rfl (lv_at hl 0 rfl) ?_
  refine lv_iload_n hx hb dL_law_428 rfl (lv_at hl 3 rfl) ?_
  refine lv_iconst (v := 2) hx hb dL_law_429 (by decide) ?_
  refine lv_iadd hx hb dL_law_430 ?_
  refine va_sld hx hb hX hbl hbA hS h_2 dL_law_431 ?_
  refine lw_ci (va_runV (As := [.int (xs (nI i + 1).toNatClampNeg), .int (xs (nI i + 2).toNatClampNeg)]) (rest := [.int r]) ⟨hx, hb, hml, hown, hts⟩ (k_X12_base l D cA adr2 hJ2 1000 (xs (nI i + 1).toNatClampNeg) (xs (nI i + 2).toNatClampNeg) hT2 M2 r M2' hc2) (cwV 2 hts hL_X12_base rfl rfl rfl (by decide +kernel) ⟨Nat.le_of_ble_eq_true rfl, Nat.le_of_ble_eq_true rfl⟩) ⟨smPc_bl, smRv hE hP2 hT2 rfl (ci := 12) (q := (RX12, TX12, 54)) rfl, smPc_in [.ref (adr2 1000), .int (xs (nI i + 1).toNatClampNeg), .int (xs (nI i + 2).toNatClampNeg)] hE hP2⟩ rfl rfl hl.1 rfl (lv_room (Nat.le_of_ble_eq_true rfl)) dL_law_432 ⟨Nat.le_of_ble_eq_true rfl, Nat.le_of_ble_eq_true rfl⟩) hS hA2 hP1 hd2 (fun H locs hP2 hP1 hS => ?_)
  refine lv_icmp_eq (tgt := 1282) hx hb dL_law_435 (by decide) (fun _ => ?_) (fun c => absurd rfl c)
  exact kk _ _ hR _ _ hP1 hP2 hS _ hl
set_option maxHeartbeats 4000000 in
set_option maxRecDepth 100000 in
theorem lw_op_member {p : Program} {l : Launch} {e : Env} {s : State} {m : MethodId} {below : List Frame} {meth : Method} {c : Code} {D : va_G} {cA : Nat → ClassId} {adr1 adr2 : Nat → Nat} {Rel : smM → smM → Prop} (hop : Op_member Rel) {b L : Nat} {xs : Nat → Int32} (hL : L ≤ 2560) (C0 : lw_At p s m meth c b L xs) (hE : smEnv D cA s) (hJ1 : smJ 1 adr1) (hJ2 : smJ 2 adr2) (hA1 : ∀ q, smA 1 adr1 q → s.heap.size ≤ q) (hA2 : ∀ q, smA 2 adr2 q → s.heap.size ≤ q) (hd1 : ∀ q, smA 2 adr2 q → ¬ smA 1 adr1 q) (hd2 : ∀ q, smA 1 adr1 q → ¬ smA 2 adr2 q) {i : Nat} (hi : i + 5 ≤ L) (kk : ∀ M1 M2, Rel M1 M2 → ∀ H locs, smP D cA 1 adr1 M1 H → smP D cA 2 adr2 M2 H → va_S (fun q : Nat => s.heap.size ≤ q) s.heap H locs → ∀ ls, lv_has ls 4 [(0, .ref b), (1, .ref (adr1 0)), (2, .ref (adr2 1000)), (3, .int (nI i))] → W p l e room_1 s m #[Value.ref b] below meth c H locs 548 6688 (lw_Z below #[Value.ref b] s) (F0 m 1282 ls [])) {M1 M2 : smM} (hR : Rel M1 M2) {H : Heap} {locs : List Loc} (hP1 : smP D cA 1 adr1 M1 H) (hP2 : smP D cA 2 adr2 M2 H) (hS : va_S (fun q : Nat => s.heap.size ≤ q) s.heap H locs) {ls : Array Slot} (hl : lv_has ls 4 [(0, .ref b), (1, .ref (adr1 0)), (2, .ref (adr2 1000)), (3, .int (nI i))]) : W p l e room_1 s m #[Value.ref b] below meth c H locs 548 6688 (lw_Z below #[Value.ref b] s) (F0 m 440 ls []) := by
  obtain ⟨hx, hb, hr, hml, hown, hts, hX, hbl, hlocks, hgv⟩ := C0
  have hown : s.vm.findClass RL = some m.cls := hown
  have hbA : ¬ (fun q : Nat => s.heap.size ≤ q) b := Nat.not_le.mpr hbl
  have hT1 : smT 1 0 11 := ⟨Nat.le_refl _, by decide, by decide +kernel⟩
  have hT2 : smT 2 1000 12 := ⟨Nat.le_refl _, by decide, by decide +kernel⟩
  have h_1 : vp_in (nI i + 1) L := lw_idx hi hL (by decide : 1 < 5) (lw_nIa i 1)
  have h_2 : vp_in (nI i + 2) L := lw_idx hi hL (by decide : 2 < 5) (lw_nIa i 2)
  have h_3 : vp_in (nI i + 3) L := lw_idx hi hL (by decide : 3 < 5) (lw_nIa i 3)
  obtain ⟨r, M1', M2', hc1, hc2, hR⟩ := hop M1 M2 hR (xs (nI i + 1).toNatClampNeg) (xs (nI i + 2).toNatClampNeg) (xs (nI i + 3).toNatClampNeg)
  refine lv_aload_n hx hb dL_law_440 rfl (lv_at hl 1 rfl) ?_
  refine lv_aload_n hx hb dL_law_441 rfl (lv_at hl 0 rfl) ?_
  refine lv_iload_n hx hb dL_law_442 rfl (lv_at hl 3 rfl) ?_
  refine lv_iconst (v := 1) hx hb dL_law_443 (by decide) ?_
  refine lv_iadd hx hb dL_law_444 ?_
  refine va_sld hx hb hX hbl hbA hS h_1 dL_law_445 ?_
  refine lv_aload_n hx hb dL_law_446 rfl (lv_at hl 0 rfl) ?_
  refine lv_iload_n hx hb dL_law_447 rfl (lv_at hl 3 rfl) ?_
  refine lv_iconst (v := 2) hx hb dL_law_448 (by decide) ?_
  refine lv_iadd hx hb dL_law_449 ?_
  refine va_sld hx hb hX hbl hbA hS h_2 dL_law_450 ?_
  refine lv_aload_n hx hb dL_law_451 rfl (lv_at hl 0 rfl) ?_
  refine lv_iload_n hx hb dL_law_452 rfl (lv_at hl 3 rfl) ?_
  refine lv_iconst (v := 3) hx hb dL_law_453 (by decide) ?_
  refine lv_iadd hx hb dL_law_454 ?_
  refine va_sld hx hb hX hbl hbA hS h_3 dL_law_455 ?_
  refine lw_ci (va_runV (As := [.int (xs (nI i + 1).toNatClampNeg), .int (xs (nI i + 2).toNatClampNeg), .int (xs (nI i + 3).toNatClampNeg)]) (rest := []) ⟨hx, hb, hml, hown, hts⟩ (k_X11_member l D cA adr1 hJ1 0 (xs (nI i + 1).toNatClampNeg) (xs (nI i + 2).toNatClampNeg) (xs (nI i + 3).toNatClampNeg) hT1 M1 r M1' hc1) (cwV 3 hts hL_X11_member rfl rfl rfl (by decide +kernel) ⟨Nat.le_of_ble_eq_true rfl, Nat.le_of_ble_eq_true rfl⟩) ⟨smPc_bl, smRv hE hP1 hT1 rfl (ci := 11) (q := (RX11, TX11, 11)) rfl, smPc_in [.ref (adr1 0), .int (xs (nI i + 1).toNatClampNeg), .int (xs (nI i + 2).toNatClampNeg), .int (xs (nI i + 3).toNatClampNeg)] hE hP1⟩ rfl rfl hl.1 rfl (lv_room (Nat.le_of_ble_eq_true rfl)) dL_law_456 ⟨Nat.le_of_ble_eq_true rfl, Nat.le_of_ble_eq_true rfl⟩) hS hA1 hP2 hd1 (fun H locs hP1 hP2 hS => ?_)
  refine lv_aload_n hx hb dL_law_459 rfl (lv_at hl 2 rfl) ?_
  refine lv_aload_n hx hb dL_law_460 rfl (lv_at hl 0 rfl) ?_
  refine lv_iload_n hx hb dL_law_461 rfl (lv_at hl 3 rfl) ?_
  refine lv_iconst (v := 1) hx hb dL_law_462 (by decide) ?_
  refine lv_iadd hx hb dL_law_463 ?_
  refine va_sld hx hb hX hbl hbA hS h_1 dL_law_464 ?_
  refine lv_aload_n hx hb dL_law_465 rfl (lv_at hl 0 rfl) ?_
  refine lv_iload_n hx hb dL_law_466 rfl (lv_at hl 3 rfl) ?_
  refine lv_iconst (v := 2) hx hb dL_law_467 (by decide) ?_
  refine lv_iadd hx hb dL_law_468 ?_
  refine va_sld hx hb hX hbl hbA hS h_2 dL_law_469 ?_
  refine lv_aload_n hx hb dL_law_470 rfl (lv_at hl 0 rfl) ?_
  refine lv_iload_n hx hb dL_law_471 rfl (lv_at hl 3 rfl) ?_
  refine lv_iconst (v := 3) hx hb dL_law_472 (by decide) ?_
  refine lv_iadd hx hb dL_law_473 ?_
  refine va_sld hx hb hX hbl hbA hS h_3 dL_law_474 ?_
  refine lw_ci (va_runV (As := [.int (xs (nI i + 1).toNatClampNeg), .int (xs (nI i + 2).toNatClampNeg), .int (xs (nI i + 3).toNatClampNeg)]) (rest := [.int r]) ⟨hx, hb, hml, hown, hts⟩ (k_X12_member l D cA adr2 hJ2 1000 (xs (nI i + 1).toNatClampNeg) (xs (nI i + 2).toNatClampNeg) (xs (nI i + 3).toNatClampNeg) hT2 M2 r M2' hc2) (cwV 3 hts hL_X12_member rfl rfl rfl (by decide +kernel) ⟨Nat.le_of_ble_eq_true rfl, Nat.le_of_ble_eq_true rfl⟩) ⟨smPc_bl, smRv hE hP2 hT2 rfl (ci := 12) (q := (RX12, TX12, 54)) rfl, smPc_in [.ref (adr2 1000), .int (xs (nI i + 1).toNatClampNeg), .int (xs (nI i + 2).toNatClampNeg), .int (xs (nI i + 3).toNatClampNeg)] hE hP2⟩ rfl rfl hl.1 rfl (lv_room (Nat.le_of_ble_eq_true rfl)) dL_law_475 ⟨Nat.le_of_ble_eq_true rfl, Nat.le_of_ble_eq_true rfl⟩) hS hA2 hP1 hd2 (fun H locs hP2 hP1 hS => ?_)
  refine lv_icmp_eq (tgt := 1282) hx hb dL_law_478 (by decide) (fun _ => ?_) (fun c => absurd rfl c)
  exact kk _ _ hR _ _ hP1 hP2 hS _ hl
set_option maxHeartbeats 4000000 in
set_option maxRecDepth 100000 in
theorem lw_op_tail {p : Program} {l : Launch} {e : Env} {s : State} {m : MethodId} {below : List Frame} {meth : Method} {c : Code} {D : va_G} {cA : Nat → ClassId} {adr1 adr2 : Nat → Nat} {Rel : smM → smM → Prop} (hop : Op_tail Rel) {b L : Nat} {xs : Nat → Int32} (hL : L ≤ 2560) (C0 : lw_At p s m meth c b L xs) (hE : smEnv D cA s) (hJ1 : smJ 1 adr1) (hJ2 : smJ 2 adr2) (hA1 : ∀ q, smA 1 adr1 q → s.heap.size ≤ q) (hA2 : ∀ q, smA 2 adr2 q → s.heap.size ≤ q) (hd1 : ∀ q, smA 2 adr2 q → ¬ smA 1 adr1 q) (hd2 : ∀ q, smA 1 adr1 q → ¬ smA 2 adr2 q) {i : Nat} (hi : i + 5 ≤ L) (kk : ∀ M1 M2, Rel M1 M2 → ∀ H locs, smP D cA 1 adr1 M1 H → smP D cA 2 adr2 M2 H → va_S (fun q : Nat => s.heap.size ≤ q) s.heap H locs → ∀ ls, lv_has ls 4 [(0, .ref b), (1, .ref (adr1 0)), (2, .ref (adr2 1000)), (3, .int (nI i))] → W p l e room_1 s m #[Value.ref b] below meth c H locs 548 6688 (lw_Z below #[Value.ref b] s) (F0 m 1282 ls [])) {M1 M2 : smM} (hR : Rel M1 M2) {H : Heap} {locs : List Loc} (hP1 : smP D cA 1 adr1 M1 H) (hP2 : smP D cA 2 adr2 M2 H) (hS : va_S (fun q : Nat => s.heap.size ≤ q) s.heap H locs) {ls : Array Slot} (hl : lv_has ls 4 [(0, .ref b), (1, .ref (adr1 0)), (2, .ref (adr2 1000)), (3, .int (nI i))]) : W p l e room_1 s m #[Value.ref b] below meth c H locs 548 6688 (lw_Z below #[Value.ref b] s) (F0 m 483 ls []) := by
  obtain ⟨hx, hb, hr, hml, hown, hts, hX, hbl, hlocks, hgv⟩ := C0
  have hown : s.vm.findClass RL = some m.cls := hown
  have hbA : ¬ (fun q : Nat => s.heap.size ≤ q) b := Nat.not_le.mpr hbl
  have hT1 : smT 1 0 11 := ⟨Nat.le_refl _, by decide, by decide +kernel⟩
  have hT2 : smT 2 1000 12 := ⟨Nat.le_refl _, by decide, by decide +kernel⟩
  have h_1 : vp_in (nI i + 1) L := lw_idx hi hL (by decide : 1 < 5) (lw_nIa i 1)
  have h_2 : vp_in (nI i + 2) L := lw_idx hi hL (by decide : 2 < 5) (lw_nIa i 2)
  have h_3 : vp_in (nI i + 3) L := lw_idx hi hL (by decide : 3 < 5) (lw_nIa i 3)
  obtain ⟨r, M1', M2', hc1, hc2, hR⟩ := hop M1 M2 hR (xs (nI i + 1).toNatClampNeg) (xs (nI i + 2).toNatClampNeg) (xs (nI i + 3).toNatClampNeg)
  refine lv_aload_n hx hb dL_law_483 rfl (lv_at hl 1 rfl) ?_
  refine lv_aload_n hx hb dL_law_484 rfl (lv_at hl 0 rfl) ?_
  refine lv_iload_n hx hb dL_law_485 rfl (lv_at hl 3 rfl) ?_
  refine lv_iconst (v := 1) hx hb dL_law_486 (by decide) ?_
  refine lv_iadd hx hb dL_law_487 ?_
  refine va_sld hx hb hX hbl hbA hS h_1 dL_law_488 ?_
  refine lv_aload_n hx hb dL_law_489 rfl (lv_at hl 0 rfl) ?_
  refine lv_iload_n hx hb dL_law_490 rfl (lv_at hl 3 rfl) ?_
  refine lv_iconst (v := 2) hx hb dL_law_491 (by decide) ?_
  refine lv_iadd hx hb dL_law_492 ?_
  refine va_sld hx hb hX hbl hbA hS h_2 dL_law_493 ?_
  refine lv_aload_n hx hb dL_law_494 rfl (lv_at hl 0 rfl) ?_
  refine lv_iload_n hx hb dL_law_495 rfl (lv_at hl 3 rfl) ?_
  refine lv_iconst (v := 3) hx hb dL_law_496 (by decide) ?_
  refine lv_iadd hx hb dL_law_497 ?_
  refine va_sld hx hb hX hbl hbA hS h_3 dL_law_498 ?_
  refine lw_ci (va_runV (As := [.int (xs (nI i + 1).toNatClampNeg), .int (xs (nI i + 2).toNatClampNeg), .int (xs (nI i + 3).toNatClampNeg)]) (rest := []) ⟨hx, hb, hml, hown, hts⟩ (k_X11_tail l D cA adr1 hJ1 0 (xs (nI i + 1).toNatClampNeg) (xs (nI i + 2).toNatClampNeg) (xs (nI i + 3).toNatClampNeg) hT1 M1 r M1' hc1) (cwV 3 hts hL_X11_tail rfl rfl rfl (by decide +kernel) ⟨Nat.le_of_ble_eq_true rfl, Nat.le_of_ble_eq_true rfl⟩) ⟨smPc_bl, smRv hE hP1 hT1 rfl (ci := 11) (q := (RX11, TX11, 11)) rfl, smPc_in [.ref (adr1 0), .int (xs (nI i + 1).toNatClampNeg), .int (xs (nI i + 2).toNatClampNeg), .int (xs (nI i + 3).toNatClampNeg)] hE hP1⟩ rfl rfl hl.1 rfl (lv_room (Nat.le_of_ble_eq_true rfl)) dL_law_499 ⟨Nat.le_of_ble_eq_true rfl, Nat.le_of_ble_eq_true rfl⟩) hS hA1 hP2 hd1 (fun H locs hP1 hP2 hS => ?_)
  refine lv_aload_n hx hb dL_law_502 rfl (lv_at hl 2 rfl) ?_
  refine lv_aload_n hx hb dL_law_503 rfl (lv_at hl 0 rfl) ?_
  refine lv_iload_n hx hb dL_law_504 rfl (lv_at hl 3 rfl) ?_
  refine lv_iconst (v := 1) hx hb dL_law_505 (by decide) ?_
  refine lv_iadd hx hb dL_law_506 ?_
  refine va_sld hx hb hX hbl hbA hS h_1 dL_law_507 ?_
  refine lv_aload_n hx hb dL_law_508 rfl (lv_at hl 0 rfl) ?_
  refine lv_iload_n hx hb dL_law_509 rfl (lv_at hl 3 rfl) ?_
  refine lv_iconst (v := 2) hx hb dL_law_510 (by decide) ?_
  refine lv_iadd hx hb dL_law_511 ?_
  refine va_sld hx hb hX hbl hbA hS h_2 dL_law_512 ?_
  refine lv_aload_n hx hb dL_law_513 rfl (lv_at hl 0 rfl) ?_
  refine lv_iload_n hx hb dL_law_514 rfl (lv_at hl 3 rfl) ?_
  refine lv_iconst (v := 3) hx hb dL_law_515 (by decide) ?_
  refine lv_iadd hx hb dL_law_516 ?_
  refine va_sld hx hb hX hbl hbA hS h_3 dL_law_517 ?_
  refine lw_ci (va_runV (As := [.int (xs (nI i + 1).toNatClampNeg), .int (xs (nI i + 2).toNatClampNeg), .int (xs (nI i + 3).toNatClampNeg)]) (rest := [.int r]) ⟨hx, hb, hml, hown, hts⟩ (k_X12_tail l D cA adr2 hJ2 1000 (xs (nI i + 1).toNatClampNeg) (xs (nI i + 2).toNatClampNeg) (xs (nI i + 3).toNatClampNeg) hT2 M2 r M2' hc2) (cwV 3 hts hL_X12_tail rfl rfl rfl (by decide +kernel) ⟨Nat.le_of_ble_eq_true rfl, Nat.le_of_ble_eq_true rfl⟩) ⟨smPc_bl, smRv hE hP2 hT2 rfl (ci := 12) (q := (RX12, TX12, 54)) rfl, smPc_in [.ref (adr2 1000), .int (xs (nI i + 1).toNatClampNeg), .int (xs (nI i + 2).toNatClampNeg), .int (xs (nI i + 3).toNatClampNeg)] hE hP2⟩ rfl rfl hl.1 rfl (lv_room (Nat.le_of_ble_eq_true rfl)) dL_law_518 ⟨Nat.le_of_ble_eq_true rfl, Nat.le_of_ble_eq_true rfl⟩) hS hA2 hP1 hd2 (fun H locs hP2 hP1 hS => ?_)
  refine lv_icmp_eq (tgt := 1282) hx hb dL_law_521 (by decide) (fun _ => ?_) (fun c => absurd rfl c)
  exact kk _ _ hR _ _ hP1 hP2 hS _ hl
set_option maxHeartbeats 4000000 in
set_option maxRecDepth 100000 in
theorem lw_op_stair {p : Program} {l : Launch} {e : Env} {s : State} {m : MethodId} {below : List Frame} {meth : Method} {c : Code} {D : va_G} {cA : Nat → ClassId} {adr1 adr2 : Nat → Nat} {Rel : smM → smM → Prop} (hop : Op_stair Rel) {b L : Nat} {xs : Nat → Int32} (hL : L ≤ 2560) (C0 : lw_At p s m meth c b L xs) (hE : smEnv D cA s) (hJ1 : smJ 1 adr1) (hJ2 : smJ 2 adr2) (hA1 : ∀ q, smA 1 adr1 q → s.heap.size ≤ q) (hA2 : ∀ q, smA 2 adr2 q → s.heap.size ≤ q) (hd1 : ∀ q, smA 2 adr2 q → ¬ smA 1 adr1 q) (hd2 : ∀ q, smA 1 adr1 q → ¬ smA 2 adr2 q) {i : Nat} (hi : i + 5 ≤ L) (kk : ∀ M1 M2, Rel M1 M2 → ∀ H locs, smP D cA 1 adr1 M1 H → smP D cA 2 adr2 M2 H → va_S (fun q : Nat => s.heap.size ≤ q) s.heap H locs → ∀ ls, lv_has ls 4 [(0, .ref b), (1, .ref (adr1 0)), (2, .ref (adr2 1000)), (3, .int (nI i))] → W p l e room_1 s m #[Value.ref b] below meth c H locs 548 6688 (lw_Z below #[Value.ref b] s) (F0 m 1282 ls [])) {M1 M2 : smM} (hR : Rel M1 M2) {H : Heap} {locs : List Loc} (hP1 : smP D cA 1 adr1 M1 H) (hP2 : smP D cA 2 adr2 M2 H) (hS : va_S (fun q : Nat => s.heap.size ≤ q) s.heap H locs) {ls : Array Slot} (hl : lv_has ls 4 [(0, .ref b), (1, .ref (adr1 0)), (2, .ref (adr2 1000)), (3, .int (nI i))]) : W p l e room_1 s m #[Value.ref b] below meth c H locs 548 6688 (lw_Z below #[Value.ref b] s) (F0 m 526 ls []) := by
  obtain ⟨hx, hb, hr, hml, hown, hts, hX, hbl, hlocks, hgv⟩ := C0
  have hown : s.vm.findClass RL = some m.cls := hown
  have hbA : ¬ (fun q : Nat => s.heap.size ≤ q) b := Nat.not_le.mpr hbl
  have hT1 : smT 1 0 11 := ⟨Nat.le_refl _, by decide, by decide +kernel⟩
  have hT2 : smT 2 1000 12 := ⟨Nat.le_refl _, by decide, by decide +kernel⟩
  have h_1 : vp_in (nI i + 1) L := lw_idx hi hL (by decide : 1 < 5) (lw_nIa i 1)
  have h_2 : vp_in (nI i + 2) L := lw_idx hi hL (by decide : 2 < 5) (lw_nIa i 2)
  have h_3 : vp_in (nI i + 3) L := lw_idx hi hL (by decide : 3 < 5) (lw_nIa i 3)
  obtain ⟨r, M1', M2', hc1, hc2, hR⟩ := hop M1 M2 hR (xs (nI i + 1).toNatClampNeg) (xs (nI i + 2).toNatClampNeg) (xs (nI i + 3).toNatClampNeg)
  refine lv_aload_n hx hb dL_law_526 rfl (lv_at hl 1 rfl) ?_
  refine lv_aload_n hx hb dL_law_527 rfl (lv_at hl 0 rfl) ?_
  refine lv_iload_n hx hb dL_law_528 rfl (lv_at hl 3 rfl) ?_
  refine lv_iconst (v := 1) hx hb dL_law_529 (by decide) ?_
  refine lv_iadd hx hb dL_law_530 ?_
  refine va_sld hx hb hX hbl hbA hS h_1 dL_law_531 ?_
  refine lv_aload_n hx hb dL_law_532 rfl (lv_at hl 0 rfl) ?_
  refine lv_iload_n hx hb dL_law_533 rfl (lv_at hl 3 rfl) ?_
  refine lv_iconst (v := 2) hx hb dL_law_534 (by decide) ?_
  refine lv_iadd hx hb dL_law_535 ?_
  refine va_sld hx hb hX hbl hbA hS h_2 dL_law_536 ?_
  refine lv_aload_n hx hb dL_law_537 rfl (lv_at hl 0 rfl) ?_
  refine lv_iload_n hx hb dL_law_538 rfl (lv_at hl 3 rfl) ?_
  refine lv_iconst (v := 3) hx hb dL_law_539 (by decide) ?_
  refine lv_iadd hx hb dL_law_540 ?_
  refine va_sld hx hb hX hbl hbA hS h_3 dL_law_541 ?_
  refine lw_ci (va_runV (As := [.int (xs (nI i + 1).toNatClampNeg), .int (xs (nI i + 2).toNatClampNeg), .int (xs (nI i + 3).toNatClampNeg)]) (rest := []) ⟨hx, hb, hml, hown, hts⟩ (k_X11_stair l D cA adr1 hJ1 0 (xs (nI i + 1).toNatClampNeg) (xs (nI i + 2).toNatClampNeg) (xs (nI i + 3).toNatClampNeg) hT1 M1 r M1' hc1) (cwV 3 hts hL_X11_stair rfl rfl rfl (by decide +kernel) ⟨Nat.le_of_ble_eq_true rfl, Nat.le_of_ble_eq_true rfl⟩) ⟨smPc_bl, smRv hE hP1 hT1 rfl (ci := 11) (q := (RX11, TX11, 11)) rfl, smPc_in [.ref (adr1 0), .int (xs (nI i + 1).toNatClampNeg), .int (xs (nI i + 2).toNatClampNeg), .int (xs (nI i + 3).toNatClampNeg)] hE hP1⟩ rfl rfl hl.1 rfl (lv_room (Nat.le_of_ble_eq_true rfl)) dL_law_542 ⟨Nat.le_of_ble_eq_true rfl, Nat.le_of_ble_eq_true rfl⟩) hS hA1 hP2 hd1 (fun H locs hP1 hP2 hS => ?_)
  refine lv_aload_n hx hb dL_law_545 rfl (lv_at hl 2 rfl) ?_
  refine lv_aload_n hx hb dL_law_546 rfl (lv_at hl 0 rfl) ?_
  refine lv_iload_n hx hb dL_law_547 rfl (lv_at hl 3 rfl) ?_
  refine lv_iconst (v := 1) hx hb dL_law_548 (by decide) ?_
  refine lv_iadd hx hb dL_law_549 ?_
  refine va_sld hx hb hX hbl hbA hS h_1 dL_law_550 ?_
  refine lv_aload_n hx hb dL_law_551 rfl (lv_at hl 0 rfl) ?_
  refine lv_iload_n hx hb dL_law_552 rfl (lv_at hl 3 rfl) ?_
  refine lv_iconst (v := 2) hx hb dL_law_553 (by decide) ?_
  refine lv_iadd hx hb dL_law_554 ?_
  refine va_sld hx hb hX hbl hbA hS h_2 dL_law_555 ?_
  refine lv_aload_n hx hb dL_law_556 rfl (lv_at hl 0 rfl) ?_
  refine lv_iload_n hx hb dL_law_557 rfl (lv_at hl 3 rfl) ?_
  refine lv_iconst (v := 3) hx hb dL_law_558 (by decide) ?_
  refine lv_iadd hx hb dL_law_559 ?_
  refine va_sld hx hb hX hbl hbA hS h_3 dL_law_560 ?_
  refine lw_ci (va_runV (As := [.int (xs (nI i + 1).toNatClampNeg), .int (xs (nI i + 2).toNatClampNeg), .int (xs (nI i + 3).toNatClampNeg)]) (rest := [.int r]) ⟨hx, hb, hml, hown, hts⟩ (k_X12_stair l D cA adr2 hJ2 1000 (xs (nI i + 1).toNatClampNeg) (xs (nI i + 2).toNatClampNeg) (xs (nI i + 3).toNatClampNeg) hT2 M2 r M2' hc2) (cwV 3 hts hL_X12_stair rfl rfl rfl (by decide +kernel) ⟨Nat.le_of_ble_eq_true rfl, Nat.le_of_ble_eq_true rfl⟩) ⟨smPc_bl, smRv hE hP2 hT2 rfl (ci := 12) (q := (RX12, TX12, 54)) rfl, smPc_in [.ref (adr2 1000), .int (xs (nI i + 1).toNatClampNeg), .int (xs (nI i + 2).toNatClampNeg), .int (xs (nI i + 3).toNatClampNeg)] hE hP2⟩ rfl rfl hl.1 rfl (lv_room (Nat.le_of_ble_eq_true rfl)) dL_law_561 ⟨Nat.le_of_ble_eq_true rfl, Nat.le_of_ble_eq_true rfl⟩) hS hA2 hP1 hd2 (fun H locs hP2 hP1 hS => ?_)
  refine lv_icmp_eq (tgt := 1282) hx hb dL_law_564 (by decide) (fun _ => ?_) (fun c => absurd rfl c)
  exact kk _ _ hR _ _ hP1 hP2 hS _ hl
set_option maxHeartbeats 4000000 in
set_option maxRecDepth 100000 in
theorem lw_op_normal {p : Program} {l : Launch} {e : Env} {s : State} {m : MethodId} {below : List Frame} {meth : Method} {c : Code} {D : va_G} {cA : Nat → ClassId} {adr1 adr2 : Nat → Nat} {Rel : smM → smM → Prop} (hop : Op_normal Rel) {b L : Nat} {xs : Nat → Int32} (hL : L ≤ 2560) (C0 : lw_At p s m meth c b L xs) (hE : smEnv D cA s) (hJ1 : smJ 1 adr1) (hJ2 : smJ 2 adr2) (hA1 : ∀ q, smA 1 adr1 q → s.heap.size ≤ q) (hA2 : ∀ q, smA 2 adr2 q → s.heap.size ≤ q) (hd1 : ∀ q, smA 2 adr2 q → ¬ smA 1 adr1 q) (hd2 : ∀ q, smA 1 adr1 q → ¬ smA 2 adr2 q) {i : Nat} (hi : i + 5 ≤ L) (kk : ∀ M1 M2, Rel M1 M2 → ∀ H locs, smP D cA 1 adr1 M1 H → smP D cA 2 adr2 M2 H → va_S (fun q : Nat => s.heap.size ≤ q) s.heap H locs → ∀ ls, lv_has ls 4 [(0, .ref b), (1, .ref (adr1 0)), (2, .ref (adr2 1000)), (3, .int (nI i))] → W p l e room_1 s m #[Value.ref b] below meth c H locs 548 6688 (lw_Z below #[Value.ref b] s) (F0 m 1282 ls [])) {M1 M2 : smM} (hR : Rel M1 M2) {H : Heap} {locs : List Loc} (hP1 : smP D cA 1 adr1 M1 H) (hP2 : smP D cA 2 adr2 M2 H) (hS : va_S (fun q : Nat => s.heap.size ≤ q) s.heap H locs) {ls : Array Slot} (hl : lv_has ls 4 [(0, .ref b), (1, .ref (adr1 0)), (2, .ref (adr2 1000)), (3, .int (nI i))]) : W p l e room_1 s m #[Value.ref b] below meth c H locs 548 6688 (lw_Z below #[Value.ref b] s) (F0 m 569 ls []) := by
  obtain ⟨hx, hb, hr, hml, hown, hts, hX, hbl, hlocks, hgv⟩ := C0
  have hown : s.vm.findClass RL = some m.cls := hown
  have hbA : ¬ (fun q : Nat => s.heap.size ≤ q) b := Nat.not_le.mpr hbl
  have hT1 : smT 1 0 11 := ⟨Nat.le_refl _, by decide, by decide +kernel⟩
  have hT2 : smT 2 1000 12 := ⟨Nat.le_refl _, by decide, by decide +kernel⟩
  have h_1 : vp_in (nI i + 1) L := lw_idx hi hL (by decide : 1 < 5) (lw_nIa i 1)
  have h_2 : vp_in (nI i + 2) L := lw_idx hi hL (by decide : 2 < 5) (lw_nIa i 2)
  have h_3 : vp_in (nI i + 3) L := lw_idx hi hL (by decide : 3 < 5) (lw_nIa i 3)
  have h_4 : vp_in (nI i + 4) L := lw_idx hi hL (by decide : 4 < 5) (lw_nIa i 4)
  obtain ⟨r, M1', M2', hc1, hc2, hR⟩ := hop M1 M2 hR (xs (nI i + 1).toNatClampNeg) (xs (nI i + 2).toNatClampNeg) (xs (nI i + 3).toNatClampNeg) (xs (nI i + 4).toNatClampNeg)
  refine lv_aload_n hx hb dL_law_569 rfl (lv_at hl 1 rfl) ?_
  refine lv_aload_n hx hb dL_law_570 rfl (lv_at hl 0 rfl) ?_
  refine lv_iload_n hx hb dL_law_571 rfl (lv_at hl 3 rfl) ?_
  refine lv_iconst (v := 1) hx hb dL_law_572 (by decide) ?_
  refine lv_iadd hx hb dL_law_573 ?_
  refine va_sld hx hb hX hbl hbA hS h_1 dL_law_574 ?_
  refine lv_aload_n hx hb dL_law_575 rfl (lv_at hl 0 rfl) ?_
  refine lv_iload_n hx hb dL_law_576 rfl (lv_at hl 3 rfl) ?_
  refine lv_iconst (v := 2) hx hb dL_law_577 (by decide) ?_
  refine lv_iadd hx hb dL_law_578 ?_
  refine va_sld hx hb hX hbl hbA hS h_2 dL_law_579 ?_
  refine lv_aload_n hx hb dL_law_580 rfl (lv_at hl 0 rfl) ?_
  refine lv_iload_n hx hb dL_law_581 rfl (lv_at hl 3 rfl) ?_
  refine lv_iconst (v := 3) hx hb dL_law_582 (by decide) ?_
  refine lv_iadd hx hb dL_law_583 ?_
  refine va_sld hx hb hX hbl hbA hS h_3 dL_law_584 ?_
  refine lv_aload_n hx hb dL_law_585 rfl (lv_at hl 0 rfl) ?_
  refine lv_iload_n hx hb dL_law_586 rfl (lv_at hl 3 rfl) ?_
  refine lv_iconst (v := 4) hx hb dL_law_587 (by decide) ?_
  refine lv_iadd hx hb dL_law_588 ?_
  refine va_sld hx hb hX hbl hbA hS h_4 dL_law_589 ?_
  refine lw_ci (va_runV (As := [.int (xs (nI i + 1).toNatClampNeg), .int (xs (nI i + 2).toNatClampNeg), .int (xs (nI i + 3).toNatClampNeg), .int (xs (nI i + 4).toNatClampNeg)]) (rest := []) ⟨hx, hb, hml, hown, hts⟩ (k_X11_normal l D cA adr1 hJ1 0 (xs (nI i + 1).toNatClampNeg) (xs (nI i + 2).toNatClampNeg) (xs (nI i + 3).toNatClampNeg) (xs (nI i + 4).toNatClampNeg) hT1 M1 r M1' hc1) (cwV 4 hts hL_X11_normal rfl rfl rfl (by decide +kernel) ⟨Nat.le_of_ble_eq_true rfl, Nat.le_of_ble_eq_true rfl⟩) ⟨smPc_bl, smRv hE hP1 hT1 rfl (ci := 11) (q := (RX11, TX11, 11)) rfl, smPc_in [.ref (adr1 0), .int (xs (nI i + 1).toNatClampNeg), .int (xs (nI i + 2).toNatClampNeg), .int (xs (nI i + 3).toNatClampNeg), .int (xs (nI i + 4).toNatClampNeg)] hE hP1⟩ rfl rfl hl.1 rfl (lv_room (Nat.le_of_ble_eq_true rfl)) dL_law_590 ⟨Nat.le_of_ble_eq_true rfl, Nat.le_of_ble_eq_true rfl⟩) hS hA1 hP2 hd1 (fun H locs hP1 hP2 hS => ?_)
  refine lv_aload_n hx hb dL_law_593 rfl (lv_at hl 2 rfl) ?_
  refine lv_aload_n hx hb dL_law_594 rfl (lv_at hl 0 rfl) ?_
  refine lv_iload_n hx hb dL_law_595 rfl (lv_at hl 3 rfl) ?_
  refine lv_iconst (v := 1) hx hb dL_law_596 (by decide) ?_
  refine lv_iadd hx hb dL_law_597 ?_
  refine va_sld hx hb hX hbl hbA hS h_1 dL_law_598 ?_
  refine lv_aload_n hx hb dL_law_599 rfl (lv_at hl 0 rfl) ?_
  refine lv_iload_n hx hb dL_law_600 rfl (lv_at hl 3 rfl) ?_
  refine lv_iconst (v := 2) hx hb dL_law_601 (by decide) ?_
  refine lv_iadd hx hb dL_law_602 ?_
  refine va_sld hx hb hX hbl hbA hS h_2 dL_law_603 ?_
  refine lv_aload_n hx hb dL_law_604 rfl (lv_at hl 0 rfl) ?_
  refine lv_iload_n hx hb dL_law_605 rfl (lv_at hl 3 rfl) ?_
  refine lv_iconst (v := 3) hx hb dL_law_606 (by decide) ?_
  refine lv_iadd hx hb dL_law_607 ?_
  refine va_sld hx hb hX hbl hbA hS h_3 dL_law_608 ?_
  refine lv_aload_n hx hb dL_law_609 rfl (lv_at hl 0 rfl) ?_
  refine lv_iload_n hx hb dL_law_610 rfl (lv_at hl 3 rfl) ?_
  refine lv_iconst (v := 4) hx hb dL_law_611 (by decide) ?_
  refine lv_iadd hx hb dL_law_612 ?_
  refine va_sld hx hb hX hbl hbA hS h_4 dL_law_613 ?_
  refine lw_ci (va_runV (As := [.int (xs (nI i + 1).toNatClampNeg), .int (xs (nI i + 2).toNatClampNeg), .int (xs (nI i + 3).toNatClampNeg), .int (xs (nI i + 4).toNatClampNeg)]) (rest := [.int r]) ⟨hx, hb, hml, hown, hts⟩ (k_X12_normal l D cA adr2 hJ2 1000 (xs (nI i + 1).toNatClampNeg) (xs (nI i + 2).toNatClampNeg) (xs (nI i + 3).toNatClampNeg) (xs (nI i + 4).toNatClampNeg) hT2 M2 r M2' hc2) (cwV 4 hts hL_X12_normal rfl rfl rfl (by decide +kernel) ⟨Nat.le_of_ble_eq_true rfl, Nat.le_of_ble_eq_true rfl⟩) ⟨smPc_bl, smRv hE hP2 hT2 rfl (ci := 12) (q := (RX12, TX12, 54)) rfl, smPc_in [.ref (adr2 1000), .int (xs (nI i + 1).toNatClampNeg), .int (xs (nI i + 2).toNatClampNeg), .int (xs (nI i + 3).toNatClampNeg), .int (xs (nI i + 4).toNatClampNeg)] hE hP2⟩ rfl rfl hl.1 rfl (lv_room (Nat.le_of_ble_eq_true rfl)) dL_law_614 ⟨Nat.le_of_ble_eq_true rfl, Nat.le_of_ble_eq_true rfl⟩) hS hA2 hP1 hd2 (fun H locs hP2 hP1 hS => ?_)
  refine lv_icmp_eq (tgt := 1282) hx hb dL_law_617 (by decide) (fun _ => ?_) (fun c => absurd rfl c)
  exact kk _ _ hR _ _ hP1 hP2 hS _ hl
set_option maxHeartbeats 4000000 in
set_option maxRecDepth 100000 in
theorem lw_op_table {p : Program} {l : Launch} {e : Env} {s : State} {m : MethodId} {below : List Frame} {meth : Method} {c : Code} {D : va_G} {cA : Nat → ClassId} {adr1 adr2 : Nat → Nat} {Rel : smM → smM → Prop} (hop : Op_table Rel) {b L : Nat} {xs : Nat → Int32} (hL : L ≤ 2560) (C0 : lw_At p s m meth c b L xs) (hE : smEnv D cA s) (hJ1 : smJ 1 adr1) (hJ2 : smJ 2 adr2) (hA1 : ∀ q, smA 1 adr1 q → s.heap.size ≤ q) (hA2 : ∀ q, smA 2 adr2 q → s.heap.size ≤ q) (hd1 : ∀ q, smA 2 adr2 q → ¬ smA 1 adr1 q) (hd2 : ∀ q, smA 1 adr1 q → ¬ smA 2 adr2 q) {i : Nat} (hi : i + 5 ≤ L) (kk : ∀ M1 M2, Rel M1 M2 → ∀ H locs, smP D cA 1 adr1 M1 H → smP D cA 2 adr2 M2 H → va_S (fun q : Nat => s.heap.size ≤ q) s.heap H locs → ∀ ls, lv_has ls 4 [(0, .ref b), (1, .ref (adr1 0)), (2, .ref (adr2 1000)), (3, .int (nI i))] → W p l e room_1 s m #[Value.ref b] below meth c H locs 548 6688 (lw_Z below #[Value.ref b] s) (F0 m 1282 ls [])) {M1 M2 : smM} (hR : Rel M1 M2) {H : Heap} {locs : List Loc} (hP1 : smP D cA 1 adr1 M1 H) (hP2 : smP D cA 2 adr2 M2 H) (hS : va_S (fun q : Nat => s.heap.size ≤ q) s.heap H locs) {ls : Array Slot} (hl : lv_has ls 4 [(0, .ref b), (1, .ref (adr1 0)), (2, .ref (adr2 1000)), (3, .int (nI i))]) : W p l e room_1 s m #[Value.ref b] below meth c H locs 548 6688 (lw_Z below #[Value.ref b] s) (F0 m 622 ls []) := by
  obtain ⟨hx, hb, hr, hml, hown, hts, hX, hbl, hlocks, hgv⟩ := C0
  have hown : s.vm.findClass RL = some m.cls := hown
  have hbA : ¬ (fun q : Nat => s.heap.size ≤ q) b := Nat.not_le.mpr hbl
  have hT1 : smT 1 0 11 := ⟨Nat.le_refl _, by decide, by decide +kernel⟩
  have hT2 : smT 2 1000 12 := ⟨Nat.le_refl _, by decide, by decide +kernel⟩
  have h_1 : vp_in (nI i + 1) L := lw_idx hi hL (by decide : 1 < 5) (lw_nIa i 1)
  have h_2 : vp_in (nI i + 2) L := lw_idx hi hL (by decide : 2 < 5) (lw_nIa i 2)
  have h_3 : vp_in (nI i + 3) L := lw_idx hi hL (by decide : 3 < 5) (lw_nIa i 3)
  have h_4 : vp_in (nI i + 4) L := lw_idx hi hL (by decide : 4 < 5) (lw_nIa i 4)
  obtain ⟨r, M1', M2', hc1, hc2, hR⟩ := hop M1 M2 hR (xs (nI i + 1).toNatClampNeg) (xs (nI i + 2).toNatClampNeg) (xs (nI i + 3).toNatClampNeg) (xs (nI i + 4).toNatClampNeg)
  refine lv_aload_n hx hb dL_law_622 rfl (lv_at hl 1 rfl) ?_
  refine lv_aload_n hx hb dL_law_623 rfl (lv_at hl 0 rfl) ?_
  refine lv_iload_n hx hb dL_law_624 rfl (lv_at hl 3 rfl) ?_
  refine lv_iconst (v := 1) hx hb dL_law_625 (by decide) ?_
  refine lv_iadd hx hb dL_law_626 ?_
  refine va_sld hx hb hX hbl hbA hS h_1 dL_law_627 ?_
  refine lv_aload_n hx hb dL_law_628 rfl (lv_at hl 0 rfl) ?_
  refine lv_iload_n hx hb dL_law_629 rfl (lv_at hl 3 rfl) ?_
  refine lv_iconst (v := 2) hx hb dL_law_630 (by decide) ?_
  refine lv_iadd hx hb dL_law_631 ?_
  refine va_sld hx hb hX hbl hbA hS h_2 dL_law_632 ?_
  refine lv_aload_n hx hb dL_law_633 rfl (lv_at hl 0 rfl) ?_
  refine lv_iload_n hx hb dL_law_634 rfl (lv_at hl 3 rfl) ?_
  refine lv_iconst (v := 3) hx hb dL_law_635 (by decide) ?_
  refine lv_iadd hx hb dL_law_636 ?_
  refine va_sld hx hb hX hbl hbA hS h_3 dL_law_637 ?_
  refine lv_aload_n hx hb dL_law_638 rfl (lv_at hl 0 rfl) ?_
  refine lv_iload_n hx hb dL_law_639 rfl (lv_at hl 3 rfl) ?_
  refine lv_iconst (v := 4) hx hb dL_law_640 (by decide) ?_
  refine lv_iadd hx hb dL_law_641 ?_
  refine va_sld hx hb hX hbl hbA hS h_4 dL_law_642 ?_
  refine lw_ci (va_runV (As := [.int (xs (nI i + 1).toNatClampNeg), .int (xs (nI i + 2).toNatClampNeg), .int (xs (nI i + 3).toNatClampNeg), .int (xs (nI i + 4).toNatClampNeg)]) (rest := []) ⟨hx, hb, hml, hown, hts⟩ (k_X11_table l D cA adr1 hJ1 0 (xs (nI i + 1).toNatClampNeg) (xs (nI i + 2).toNatClampNeg) (xs (nI i + 3).toNatClampNeg) (xs (nI i + 4).toNatClampNeg) hT1 M1 r M1' hc1) (cwV 4 hts hL_X11_table rfl rfl rfl (by decide +kernel) ⟨Nat.le_of_ble_eq_true rfl, Nat.le_of_ble_eq_true rfl⟩) ⟨smPc_bl, smRv hE hP1 hT1 rfl (ci := 11) (q := (RX11, TX11, 11)) rfl, smPc_in [.ref (adr1 0), .int (xs (nI i + 1).toNatClampNeg), .int (xs (nI i + 2).toNatClampNeg), .int (xs (nI i + 3).toNatClampNeg), .int (xs (nI i + 4).toNatClampNeg)] hE hP1⟩ rfl rfl hl.1 rfl (lv_room (Nat.le_of_ble_eq_true rfl)) dL_law_643 ⟨Nat.le_of_ble_eq_true rfl, Nat.le_of_ble_eq_true rfl⟩) hS hA1 hP2 hd1 (fun H locs hP1 hP2 hS => ?_)
  refine lv_aload_n hx hb dL_law_646 rfl (lv_at hl 2 rfl) ?_
  refine lv_aload_n hx hb dL_law_647 rfl (lv_at hl 0 rfl) ?_
  refine lv_iload_n hx hb dL_law_648 rfl (lv_at hl 3 rfl) ?_
  refine lv_iconst (v := 1) hx hb dL_law_649 (by decide) ?_
  refine lv_iadd hx hb dL_law_650 ?_
  refine va_sld hx hb hX hbl hbA hS h_1 dL_law_651 ?_
  refine lv_aload_n hx hb dL_law_652 rfl (lv_at hl 0 rfl) ?_
  refine lv_iload_n hx hb dL_law_653 rfl (lv_at hl 3 rfl) ?_
  refine lv_iconst (v := 2) hx hb dL_law_654 (by decide) ?_
  refine lv_iadd hx hb dL_law_655 ?_
  refine va_sld hx hb hX hbl hbA hS h_2 dL_law_656 ?_
  refine lv_aload_n hx hb dL_law_657 rfl (lv_at hl 0 rfl) ?_
  refine lv_iload_n hx hb dL_law_658 rfl (lv_at hl 3 rfl) ?_
  refine lv_iconst (v := 3) hx hb dL_law_659 (by decide) ?_
  refine lv_iadd hx hb dL_law_660 ?_
  refine va_sld hx hb hX hbl hbA hS h_3 dL_law_661 ?_
  refine lv_aload_n hx hb dL_law_662 rfl (lv_at hl 0 rfl) ?_
  refine lv_iload_n hx hb dL_law_663 rfl (lv_at hl 3 rfl) ?_
  refine lv_iconst (v := 4) hx hb dL_law_664 (by decide) ?_
  refine lv_iadd hx hb dL_law_665 ?_
  refine va_sld hx hb hX hbl hbA hS h_4 dL_law_666 ?_
  refine lw_ci (va_runV (As := [.int (xs (nI i + 1).toNatClampNeg), .int (xs (nI i + 2).toNatClampNeg), .int (xs (nI i + 3).toNatClampNeg), .int (xs (nI i + 4).toNatClampNeg)]) (rest := [.int r]) ⟨hx, hb, hml, hown, hts⟩ (k_X12_table l D cA adr2 hJ2 1000 (xs (nI i + 1).toNatClampNeg) (xs (nI i + 2).toNatClampNeg) (xs (nI i + 3).toNatClampNeg) (xs (nI i + 4).toNatClampNeg) hT2 M2 r M2' hc2) (cwV 4 hts hL_X12_table rfl rfl rfl (by decide +kernel) ⟨Nat.le_of_ble_eq_true rfl, Nat.le_of_ble_eq_true rfl⟩) ⟨smPc_bl, smRv hE hP2 hT2 rfl (ci := 12) (q := (RX12, TX12, 54)) rfl, smPc_in [.ref (adr2 1000), .int (xs (nI i + 1).toNatClampNeg), .int (xs (nI i + 2).toNatClampNeg), .int (xs (nI i + 3).toNatClampNeg), .int (xs (nI i + 4).toNatClampNeg)] hE hP2⟩ rfl rfl hl.1 rfl (lv_room (Nat.le_of_ble_eq_true rfl)) dL_law_667 ⟨Nat.le_of_ble_eq_true rfl, Nat.le_of_ble_eq_true rfl⟩) hS hA2 hP1 hd2 (fun H locs hP2 hP1 hS => ?_)
  refine lv_icmp_eq (tgt := 1282) hx hb dL_law_670 (by decide) (fun _ => ?_) (fun c => absurd rfl c)
  exact kk _ _ hR _ _ hP1 hP2 hS _ hl
set_option maxHeartbeats 4000000 in
set_option maxRecDepth 100000 in
theorem lw_op_place {p : Program} {l : Launch} {e : Env} {s : State} {m : MethodId} {below : List Frame} {meth : Method} {c : Code} {D : va_G} {cA : Nat → ClassId} {adr1 adr2 : Nat → Nat} {Rel : smM → smM → Prop} (hop : Op_place Rel) {b L : Nat} {xs : Nat → Int32} (hL : L ≤ 2560) (C0 : lw_At p s m meth c b L xs) (hE : smEnv D cA s) (hJ1 : smJ 1 adr1) (hJ2 : smJ 2 adr2) (hA1 : ∀ q, smA 1 adr1 q → s.heap.size ≤ q) (hA2 : ∀ q, smA 2 adr2 q → s.heap.size ≤ q) (hd1 : ∀ q, smA 2 adr2 q → ¬ smA 1 adr1 q) (hd2 : ∀ q, smA 1 adr1 q → ¬ smA 2 adr2 q) {i : Nat} (hi : i + 5 ≤ L) (kk : ∀ M1 M2, Rel M1 M2 → ∀ H locs, smP D cA 1 adr1 M1 H → smP D cA 2 adr2 M2 H → va_S (fun q : Nat => s.heap.size ≤ q) s.heap H locs → ∀ ls, lv_has ls 4 [(0, .ref b), (1, .ref (adr1 0)), (2, .ref (adr2 1000)), (3, .int (nI i))] → W p l e room_1 s m #[Value.ref b] below meth c H locs 548 6688 (lw_Z below #[Value.ref b] s) (F0 m 1282 ls [])) {M1 M2 : smM} (hR : Rel M1 M2) {H : Heap} {locs : List Loc} (hP1 : smP D cA 1 adr1 M1 H) (hP2 : smP D cA 2 adr2 M2 H) (hS : va_S (fun q : Nat => s.heap.size ≤ q) s.heap H locs) {ls : Array Slot} (hl : lv_has ls 4 [(0, .ref b), (1, .ref (adr1 0)), (2, .ref (adr2 1000)), (3, .int (nI i))]) : W p l e room_1 s m #[Value.ref b] below meth c H locs 548 6688 (lw_Z below #[Value.ref b] s) (F0 m 675 ls []) := by
  obtain ⟨hx, hb, hr, hml, hown, hts, hX, hbl, hlocks, hgv⟩ := C0
  have hown : s.vm.findClass RL = some m.cls := hown
  have hbA : ¬ (fun q : Nat => s.heap.size ≤ q) b := Nat.not_le.mpr hbl
  have hT1 : smT 1 0 11 := ⟨Nat.le_refl _, by decide, by decide +kernel⟩
  have hT2 : smT 2 1000 12 := ⟨Nat.le_refl _, by decide, by decide +kernel⟩
  have h_1 : vp_in (nI i + 1) L := lw_idx hi hL (by decide : 1 < 5) (lw_nIa i 1)
  have h_2 : vp_in (nI i + 2) L := lw_idx hi hL (by decide : 2 < 5) (lw_nIa i 2)
  have h_3 : vp_in (nI i + 3) L := lw_idx hi hL (by decide : 3 < 5) (lw_nIa i 3)
  obtain ⟨r, M1', M2', hc1, hc2, hR⟩ := hop M1 M2 hR (xs (nI i + 1).toNatClampNeg) (xs (nI i + 2).toNatClampNeg) (xs (nI i + 3).toNatClampNeg)
  refine lv_aload_n hx hb dL_law_675 rfl (lv_at hl 1 rfl) ?_
  refine lv_aload_n hx hb dL_law_676 rfl (lv_at hl 0 rfl) ?_
  refine lv_iload_n hx hb dL_law_677 rfl (lv_at hl 3 rfl) ?_
  refine lv_iconst (v := 1) hx hb dL_law_678 (by decide) ?_
  refine lv_iadd hx hb dL_law_679 ?_
  refine va_sld hx hb hX hbl hbA hS h_1 dL_law_680 ?_
  refine lv_aload_n hx hb dL_law_681 rfl (lv_at hl 0 rfl) ?_
  refine lv_iload_n hx hb dL_law_682 rfl (lv_at hl 3 rfl) ?_
  refine lv_iconst (v := 2) hx hb dL_law_683 (by decide) ?_
  refine lv_iadd hx hb dL_law_684 ?_
  refine va_sld hx hb hX hbl hbA hS h_2 dL_law_685 ?_
  refine lv_aload_n hx hb dL_law_686 rfl (lv_at hl 0 rfl) ?_
  refine lv_iload_n hx hb dL_law_687 rfl (lv_at hl 3 rfl) ?_
  refine lv_iconst (v := 3) hx hb dL_law_688 (by decide) ?_
  refine lv_iadd hx hb dL_law_689 ?_
  refine va_sld hx hb hX hbl hbA hS h_3 dL_law_690 ?_
  refine lw_ci (va_runV (As := [.int (xs (nI i + 1).toNatClampNeg), .int (xs (nI i + 2).toNatClampNeg), .int (xs (nI i + 3).toNatClampNeg)]) (rest := []) ⟨hx, hb, hml, hown, hts⟩ (k_X11_place l D cA adr1 hJ1 0 (xs (nI i + 1).toNatClampNeg) (xs (nI i + 2).toNatClampNeg) (xs (nI i + 3).toNatClampNeg) hT1 M1 r M1' hc1) (cwV 3 hts hL_X11_place rfl rfl rfl (by decide +kernel) ⟨Nat.le_of_ble_eq_true rfl, Nat.le_of_ble_eq_true rfl⟩) ⟨smPc_bl, smRv hE hP1 hT1 rfl (ci := 11) (q := (RX11, TX11, 11)) rfl, smPc_in [.ref (adr1 0), .int (xs (nI i + 1).toNatClampNeg), .int (xs (nI i + 2).toNatClampNeg), .int (xs (nI i + 3).toNatClampNeg)] hE hP1⟩ rfl rfl hl.1 rfl (lv_room (Nat.le_of_ble_eq_true rfl)) dL_law_691 ⟨Nat.le_of_ble_eq_true rfl, Nat.le_of_ble_eq_true rfl⟩) hS hA1 hP2 hd1 (fun H locs hP1 hP2 hS => ?_)
  refine lv_aload_n hx hb dL_law_694 rfl (lv_at hl 2 rfl) ?_
  refine lv_aload_n hx hb dL_law_695 rfl (lv_at hl 0 rfl) ?_
  refine lv_iload_n hx hb dL_law_696 rfl (lv_at hl 3 rfl) ?_
  refine lv_iconst (v := 1) hx hb dL_law_697 (by decide) ?_
  refine lv_iadd hx hb dL_law_698 ?_
  refine va_sld hx hb hX hbl hbA hS h_1 dL_law_699 ?_
  refine lv_aload_n hx hb dL_law_700 rfl (lv_at hl 0 rfl) ?_
  refine lv_iload_n hx hb dL_law_701 rfl (lv_at hl 3 rfl) ?_
  refine lv_iconst (v := 2) hx hb dL_law_702 (by decide) ?_
  refine lv_iadd hx hb dL_law_703 ?_
  refine va_sld hx hb hX hbl hbA hS h_2 dL_law_704 ?_
  refine lv_aload_n hx hb dL_law_705 rfl (lv_at hl 0 rfl) ?_
  refine lv_iload_n hx hb dL_law_706 rfl (lv_at hl 3 rfl) ?_
  refine lv_iconst (v := 3) hx hb dL_law_707 (by decide) ?_
  refine lv_iadd hx hb dL_law_708 ?_
  refine va_sld hx hb hX hbl hbA hS h_3 dL_law_709 ?_
  refine lw_ci (va_runV (As := [.int (xs (nI i + 1).toNatClampNeg), .int (xs (nI i + 2).toNatClampNeg), .int (xs (nI i + 3).toNatClampNeg)]) (rest := [.int r]) ⟨hx, hb, hml, hown, hts⟩ (k_X12_place l D cA adr2 hJ2 1000 (xs (nI i + 1).toNatClampNeg) (xs (nI i + 2).toNatClampNeg) (xs (nI i + 3).toNatClampNeg) hT2 M2 r M2' hc2) (cwV 3 hts hL_X12_place rfl rfl rfl (by decide +kernel) ⟨Nat.le_of_ble_eq_true rfl, Nat.le_of_ble_eq_true rfl⟩) ⟨smPc_bl, smRv hE hP2 hT2 rfl (ci := 12) (q := (RX12, TX12, 54)) rfl, smPc_in [.ref (adr2 1000), .int (xs (nI i + 1).toNatClampNeg), .int (xs (nI i + 2).toNatClampNeg), .int (xs (nI i + 3).toNatClampNeg)] hE hP2⟩ rfl rfl hl.1 rfl (lv_room (Nat.le_of_ble_eq_true rfl)) dL_law_710 ⟨Nat.le_of_ble_eq_true rfl, Nat.le_of_ble_eq_true rfl⟩) hS hA2 hP1 hd2 (fun H locs hP2 hP1 hS => ?_)
  refine lv_icmp_eq (tgt := 1282) hx hb dL_law_713 (by decide) (fun _ => ?_) (fun c => absurd rfl c)
  exact kk _ _ hR _ _ hP1 hP2 hS _ hl
set_option maxHeartbeats 4000000 in
set_option maxRecDepth 100000 in
theorem lw_op_least {p : Program} {l : Launch} {e : Env} {s : State} {m : MethodId} {below : List Frame} {meth : Method} {c : Code} {D : va_G} {cA : Nat → ClassId} {adr1 adr2 : Nat → Nat} {Rel : smM → smM → Prop} (hop : Op_least Rel) {b L : Nat} {xs : Nat → Int32} (hL : L ≤ 2560) (C0 : lw_At p s m meth c b L xs) (hE : smEnv D cA s) (hJ1 : smJ 1 adr1) (hJ2 : smJ 2 adr2) (hA1 : ∀ q, smA 1 adr1 q → s.heap.size ≤ q) (hA2 : ∀ q, smA 2 adr2 q → s.heap.size ≤ q) (hd1 : ∀ q, smA 2 adr2 q → ¬ smA 1 adr1 q) (hd2 : ∀ q, smA 1 adr1 q → ¬ smA 2 adr2 q) {i : Nat} (hi : i + 5 ≤ L) (kk : ∀ M1 M2, Rel M1 M2 → ∀ H locs, smP D cA 1 adr1 M1 H → smP D cA 2 adr2 M2 H → va_S (fun q : Nat => s.heap.size ≤ q) s.heap H locs → ∀ ls, lv_has ls 4 [(0, .ref b), (1, .ref (adr1 0)), (2, .ref (adr2 1000)), (3, .int (nI i))] → W p l e room_1 s m #[Value.ref b] below meth c H locs 548 6688 (lw_Z below #[Value.ref b] s) (F0 m 1282 ls [])) {M1 M2 : smM} (hR : Rel M1 M2) {H : Heap} {locs : List Loc} (hP1 : smP D cA 1 adr1 M1 H) (hP2 : smP D cA 2 adr2 M2 H) (hS : va_S (fun q : Nat => s.heap.size ≤ q) s.heap H locs) {ls : Array Slot} (hl : lv_has ls 4 [(0, .ref b), (1, .ref (adr1 0)), (2, .ref (adr2 1000)), (3, .int (nI i))]) : W p l e room_1 s m #[Value.ref b] below meth c H locs 548 6688 (lw_Z below #[Value.ref b] s) (F0 m 718 ls []) := by
  obtain ⟨hx, hb, hr, hml, hown, hts, hX, hbl, hlocks, hgv⟩ := C0
  have hown : s.vm.findClass RL = some m.cls := hown
  have hbA : ¬ (fun q : Nat => s.heap.size ≤ q) b := Nat.not_le.mpr hbl
  have hT1 : smT 1 0 11 := ⟨Nat.le_refl _, by decide, by decide +kernel⟩
  have hT2 : smT 2 1000 12 := ⟨Nat.le_refl _, by decide, by decide +kernel⟩
  have h_1 : vp_in (nI i + 1) L := lw_idx hi hL (by decide : 1 < 5) (lw_nIa i 1)
  have h_2 : vp_in (nI i + 2) L := lw_idx hi hL (by decide : 2 < 5) (lw_nIa i 2)
  obtain ⟨r, M1', M2', hc1, hc2, hR⟩ := hop M1 M2 hR (xs (nI i + 1).toNatClampNeg) (xs (nI i + 2).toNatClampNeg)
  refine lv_aload_n hx hb dL_law_718 rfl (lv_at hl 1 rfl) ?_
  refine lv_aload_n hx hb dL_law_719 rfl (lv_at hl 0 rfl) ?_
  refine lv_iload_n hx hb dL_law_720 rfl (lv_at hl 3 rfl) ?_
  refine lv_iconst (v := 1) hx hb dL_law_721 (by decide) ?_
  refine lv_iadd hx hb dL_law_722 ?_
  refine va_sld hx hb hX hbl hbA hS h_1 dL_law_723 ?_
  refine lv_aload_n hx hb dL_law_724 rfl (lv_at hl 0 rfl) ?_
  refine lv_iload_n hx hb dL_law_725 rfl (lv_at hl 3 rfl) ?_
  refine lv_iconst (v := 2) hx hb dL_law_726 (by decide) ?_
  refine lv_iadd hx hb dL_law_727 ?_
  refine va_sld hx hb hX hbl hbA hS h_2 dL_law_728 ?_
  refine lw_ci (va_runV (As := [.int (xs (nI i + 1).toNatClampNeg), .int (xs (nI i + 2).toNatClampNeg)]) (rest := []) ⟨hx, hb, hml, hown, hts⟩ (k_X11_least l D cA adr1 hJ1 0 (xs (nI i + 1).toNatClampNeg) (xs (nI i + 2).toNatClampNeg) hT1 M1 r M1' hc1) (cwV 2 hts hL_X11_least rfl rfl rfl (by decide +kernel) ⟨Nat.le_of_ble_eq_true rfl, Nat.le_of_ble_eq_true rfl⟩) ⟨smPc_bl, smRv hE hP1 hT1 rfl (ci := 11) (q := (RX11, TX11, 11)) rfl, smPc_in [.ref (adr1 0), .int (xs (nI i + 1).toNatClampNeg), .int (xs (nI i + 2).toNatClampNeg)] hE hP1⟩ rfl rfl hl.1 rfl (lv_room (Nat.le_of_ble_eq_true rfl)) dL_law_729 ⟨Nat.le_of_ble_eq_true rfl, Nat.le_of_ble_eq_true rfl⟩) hS hA1 hP2 hd1 (fun H locs hP1 hP2 hS => ?_)
  refine lv_aload_n hx hb dL_law_732 rfl (lv_at hl 2 rfl) ?_
  refine lv_aload_n hx hb dL_law_733 rfl (lv_at hl 0 rfl) ?_
  refine lv_iload_n hx hb dL_law_734 rfl (lv_at hl 3 rfl) ?_
  refine lv_iconst (v := 1) hx hb dL_law_735 (by decide) ?_
  refine lv_iadd hx hb dL_law_736 ?_
  refine va_sld hx hb hX hbl hbA hS h_1 dL_law_737 ?_
  refine lv_aload_n hx hb dL_law_738 rfl (lv_at hl 0 rfl) ?_
  refine lv_iload_n hx hb dL_law_739 rfl (lv_at hl 3 rfl) ?_
  refine lv_iconst (v := 2) hx hb dL_law_740 (by decide) ?_
  refine lv_iadd hx hb dL_law_741 ?_
  refine va_sld hx hb hX hbl hbA hS h_2 dL_law_742 ?_
  refine lw_ci (va_runV (As := [.int (xs (nI i + 1).toNatClampNeg), .int (xs (nI i + 2).toNatClampNeg)]) (rest := [.int r]) ⟨hx, hb, hml, hown, hts⟩ (k_X12_least l D cA adr2 hJ2 1000 (xs (nI i + 1).toNatClampNeg) (xs (nI i + 2).toNatClampNeg) hT2 M2 r M2' hc2) (cwV 2 hts hL_X12_least rfl rfl rfl (by decide +kernel) ⟨Nat.le_of_ble_eq_true rfl, Nat.le_of_ble_eq_true rfl⟩) ⟨smPc_bl, smRv hE hP2 hT2 rfl (ci := 12) (q := (RX12, TX12, 54)) rfl, smPc_in [.ref (adr2 1000), .int (xs (nI i + 1).toNatClampNeg), .int (xs (nI i + 2).toNatClampNeg)] hE hP2⟩ rfl rfl hl.1 rfl (lv_room (Nat.le_of_ble_eq_true rfl)) dL_law_743 ⟨Nat.le_of_ble_eq_true rfl, Nat.le_of_ble_eq_true rfl⟩) hS hA2 hP1 hd2 (fun H locs hP2 hP1 hS => ?_)
  refine lv_icmp_eq (tgt := 1282) hx hb dL_law_746 (by decide) (fun _ => ?_) (fun c => absurd rfl c)
  exact kk _ _ hR _ _ hP1 hP2 hS _ hl
set_option maxHeartbeats 4000000 in
set_option maxRecDepth 100000 in
theorem lw_op_root {p : Program} {l : Launch} {e : Env} {s : State} {m : MethodId} {below : List Frame} {meth : Method} {c : Code} {D : va_G} {cA : Nat → ClassId} {adr1 adr2 : Nat → Nat} {Rel : smM → smM → Prop} (hop : Op_root Rel) {b L : Nat} {xs : Nat → Int32} (hL : L ≤ 2560) (C0 : lw_At p s m meth c b L xs) (hE : smEnv D cA s) (hJ1 : smJ 1 adr1) (hJ2 : smJ 2 adr2) (hA1 : ∀ q, smA 1 adr1 q → s.heap.size ≤ q) (hA2 : ∀ q, smA 2 adr2 q → s.heap.size ≤ q) (hd1 : ∀ q, smA 2 adr2 q → ¬ smA 1 adr1 q) (hd2 : ∀ q, smA 1 adr1 q → ¬ smA 2 adr2 q) {i : Nat} (hi : i + 5 ≤ L) (kk : ∀ M1 M2, Rel M1 M2 → ∀ H locs, smP D cA 1 adr1 M1 H → smP D cA 2 adr2 M2 H → va_S (fun q : Nat => s.heap.size ≤ q) s.heap H locs → ∀ ls, lv_has ls 4 [(0, .ref b), (1, .ref (adr1 0)), (2, .ref (adr2 1000)), (3, .int (nI i))] → W p l e room_1 s m #[Value.ref b] below meth c H locs 548 6688 (lw_Z below #[Value.ref b] s) (F0 m 1282 ls [])) {M1 M2 : smM} (hR : Rel M1 M2) {H : Heap} {locs : List Loc} (hP1 : smP D cA 1 adr1 M1 H) (hP2 : smP D cA 2 adr2 M2 H) (hS : va_S (fun q : Nat => s.heap.size ≤ q) s.heap H locs) {ls : Array Slot} (hl : lv_has ls 4 [(0, .ref b), (1, .ref (adr1 0)), (2, .ref (adr2 1000)), (3, .int (nI i))]) : W p l e room_1 s m #[Value.ref b] below meth c H locs 548 6688 (lw_Z below #[Value.ref b] s) (F0 m 751 ls []) := by
  obtain ⟨hx, hb, hr, hml, hown, hts, hX, hbl, hlocks, hgv⟩ := C0
  have hown : s.vm.findClass RL = some m.cls := hown
  have hbA : ¬ (fun q : Nat => s.heap.size ≤ q) b := Nat.not_le.mpr hbl
  have hT1 : smT 1 0 11 := ⟨Nat.le_refl _, by decide, by decide +kernel⟩
  have hT2 : smT 2 1000 12 := ⟨Nat.le_refl _, by decide, by decide +kernel⟩
  have h_1 : vp_in (nI i + 1) L := lw_idx hi hL (by decide : 1 < 5) (lw_nIa i 1)
  have h_2 : vp_in (nI i + 2) L := lw_idx hi hL (by decide : 2 < 5) (lw_nIa i 2)
  obtain ⟨r, M1', M2', hc1, hc2, hR⟩ := hop M1 M2 hR (xs (nI i + 1).toNatClampNeg) (xs (nI i + 2).toNatClampNeg)
  refine lv_aload_n hx hb dL_law_751 rfl (lv_at hl 1 rfl) ?_
  refine lv_aload_n hx hb dL_law_752 rfl (lv_at hl 0 rfl) ?_
  refine lv_iload_n hx hb dL_law_753 rfl (lv_at hl 3 rfl) ?_
  refine lv_iconst (v := 1) hx hb dL_law_754 (by decide) ?_
  refine lv_iadd hx hb dL_law_755 ?_
  refine va_sld hx hb hX hbl hbA hS h_1 dL_law_756 ?_
  refine lv_aload_n hx hb dL_law_757 rfl (lv_at hl 0 rfl) ?_
  refine lv_iload_n hx hb dL_law_758 rfl (lv_at hl 3 rfl) ?_
  refine lv_iconst (v := 2) hx hb dL_law_759 (by decide) ?_
  refine lv_iadd hx hb dL_law_760 ?_
  refine va_sld hx hb hX hbl hbA hS h_2 dL_law_761 ?_
  refine lw_ci (va_runV (As := [.int (xs (nI i + 1).toNatClampNeg), .int (xs (nI i + 2).toNatClampNeg)]) (rest := []) ⟨hx, hb, hml, hown, hts⟩ (k_X11_root l D cA adr1 hJ1 0 (xs (nI i + 1).toNatClampNeg) (xs (nI i + 2).toNatClampNeg) hT1 M1 r M1' hc1) (cwV 2 hts hL_X11_root rfl rfl rfl (by decide +kernel) ⟨Nat.le_of_ble_eq_true rfl, Nat.le_of_ble_eq_true rfl⟩) ⟨smPc_bl, smRv hE hP1 hT1 rfl (ci := 11) (q := (RX11, TX11, 11)) rfl, smPc_in [.ref (adr1 0), .int (xs (nI i + 1).toNatClampNeg), .int (xs (nI i + 2).toNatClampNeg)] hE hP1⟩ rfl rfl hl.1 rfl (lv_room (Nat.le_of_ble_eq_true rfl)) dL_law_762 ⟨Nat.le_of_ble_eq_true rfl, Nat.le_of_ble_eq_true rfl⟩) hS hA1 hP2 hd1 (fun H locs hP1 hP2 hS => ?_)
  refine lv_aload_n hx hb dL_law_765 rfl (lv_at hl 2 rfl) ?_
  refine lv_aload_n hx hb dL_law_766 rfl (lv_at hl 0 rfl) ?_
  refine lv_iload_n hx hb dL_law_767 rfl (lv_at hl 3 rfl) ?_
  refine lv_iconst (v := 1) hx hb dL_law_768 (by decide) ?_
  refine lv_iadd hx hb dL_law_769 ?_
  refine va_sld hx hb hX hbl hbA hS h_1 dL_law_770 ?_
  refine lv_aload_n hx hb dL_law_771 rfl (lv_at hl 0 rfl) ?_
  refine lv_iload_n hx hb dL_law_772 rfl (lv_at hl 3 rfl) ?_
  refine lv_iconst (v := 2) hx hb dL_law_773 (by decide) ?_
  refine lv_iadd hx hb dL_law_774 ?_
  refine va_sld hx hb hX hbl hbA hS h_2 dL_law_775 ?_
  refine lw_ci (va_runV (As := [.int (xs (nI i + 1).toNatClampNeg), .int (xs (nI i + 2).toNatClampNeg)]) (rest := [.int r]) ⟨hx, hb, hml, hown, hts⟩ (k_X12_root l D cA adr2 hJ2 1000 (xs (nI i + 1).toNatClampNeg) (xs (nI i + 2).toNatClampNeg) hT2 M2 r M2' hc2) (cwV 2 hts hL_X12_root rfl rfl rfl (by decide +kernel) ⟨Nat.le_of_ble_eq_true rfl, Nat.le_of_ble_eq_true rfl⟩) ⟨smPc_bl, smRv hE hP2 hT2 rfl (ci := 12) (q := (RX12, TX12, 54)) rfl, smPc_in [.ref (adr2 1000), .int (xs (nI i + 1).toNatClampNeg), .int (xs (nI i + 2).toNatClampNeg)] hE hP2⟩ rfl rfl hl.1 rfl (lv_room (Nat.le_of_ble_eq_true rfl)) dL_law_776 ⟨Nat.le_of_ble_eq_true rfl, Nat.le_of_ble_eq_true rfl⟩) hS hA2 hP1 hd2 (fun H locs hP2 hP1 hS => ?_)
  refine lv_icmp_eq (tgt := 1282) hx hb dL_law_779 (by decide) (fun _ => ?_) (fun c => absurd rfl c)
  exact kk _ _ hR _ _ hP1 hP2 hS _ hl
set_option maxHeartbeats 4000000 in
set_option maxRecDepth 100000 in
theorem lw_op_poly {p : Program} {l : Launch} {e : Env} {s : State} {m : MethodId} {below : List Frame} {meth : Method} {c : Code} {D : va_G} {cA : Nat → ClassId} {adr1 adr2 : Nat → Nat} {Rel : smM → smM → Prop} (hop : Op_poly Rel) {b L : Nat} {xs : Nat → Int32} (hL : L ≤ 2560) (C0 : lw_At p s m meth c b L xs) (hE : smEnv D cA s) (hJ1 : smJ 1 adr1) (hJ2 : smJ 2 adr2) (hA1 : ∀ q, smA 1 adr1 q → s.heap.size ≤ q) (hA2 : ∀ q, smA 2 adr2 q → s.heap.size ≤ q) (hd1 : ∀ q, smA 2 adr2 q → ¬ smA 1 adr1 q) (hd2 : ∀ q, smA 1 adr1 q → ¬ smA 2 adr2 q) {i : Nat} (hi : i + 5 ≤ L) (kk : ∀ M1 M2, Rel M1 M2 → ∀ H locs, smP D cA 1 adr1 M1 H → smP D cA 2 adr2 M2 H → va_S (fun q : Nat => s.heap.size ≤ q) s.heap H locs → ∀ ls, lv_has ls 4 [(0, .ref b), (1, .ref (adr1 0)), (2, .ref (adr2 1000)), (3, .int (nI i))] → W p l e room_1 s m #[Value.ref b] below meth c H locs 548 6688 (lw_Z below #[Value.ref b] s) (F0 m 1282 ls [])) {M1 M2 : smM} (hR : Rel M1 M2) {H : Heap} {locs : List Loc} (hP1 : smP D cA 1 adr1 M1 H) (hP2 : smP D cA 2 adr2 M2 H) (hS : va_S (fun q : Nat => s.heap.size ≤ q) s.heap H locs) {ls : Array Slot} (hl : lv_has ls 4 [(0, .ref b), (1, .ref (adr1 0)), (2, .ref (adr2 1000)), (3, .int (nI i))]) : W p l e room_1 s m #[Value.ref b] below meth c H locs 548 6688 (lw_Z below #[Value.ref b] s) (F0 m 784 ls []) := by
  obtain ⟨hx, hb, hr, hml, hown, hts, hX, hbl, hlocks, hgv⟩ := C0
  have hown : s.vm.findClass RL = some m.cls := hown
  have hbA : ¬ (fun q : Nat => s.heap.size ≤ q) b := Nat.not_le.mpr hbl
  have hT1 : smT 1 0 11 := ⟨Nat.le_refl _, by decide, by decide +kernel⟩
  have hT2 : smT 2 1000 12 := ⟨Nat.le_refl _, by decide, by decide +kernel⟩
  have h_1 : vp_in (nI i + 1) L := lw_idx hi hL (by decide : 1 < 5) (lw_nIa i 1)
  obtain ⟨r, M1', M2', hc1, hc2, hR⟩ := hop M1 M2 hR (xs (nI i + 1).toNatClampNeg)
  refine lv_aload_n hx hb dL_law_784 rfl (lv_at hl 1 rfl) ?_
  refine lv_aload_n hx hb dL_law_785 rfl (lv_at hl 0 rfl) ?_
  refine lv_iload_n hx hb dL_law_786 rfl (lv_at hl 3 rfl) ?_
  refine lv_iconst (v := 1) hx hb dL_law_787 (by decide) ?_
  refine lv_iadd hx hb dL_law_788 ?_
  refine va_sld hx hb hX hbl hbA hS h_1 dL_law_789 ?_
  refine lw_ci (va_runV (As := [.int (xs (nI i + 1).toNatClampNeg)]) (rest := []) ⟨hx, hb, hml, hown, hts⟩ (k_X11_poly l D cA adr1 hJ1 0 (xs (nI i + 1).toNatClampNeg) hT1 M1 r M1' hc1) (cwV 1 hts hL_X11_poly rfl rfl rfl (by decide +kernel) ⟨Nat.le_of_ble_eq_true rfl, Nat.le_of_ble_eq_true rfl⟩) ⟨smPc_bl, smRv hE hP1 hT1 rfl (ci := 11) (q := (RX11, TX11, 11)) rfl, smPc_in [.ref (adr1 0), .int (xs (nI i + 1).toNatClampNeg)] hE hP1⟩ rfl rfl hl.1 rfl (lv_room (Nat.le_of_ble_eq_true rfl)) dL_law_790 ⟨Nat.le_of_ble_eq_true rfl, Nat.le_of_ble_eq_true rfl⟩) hS hA1 hP2 hd1 (fun H locs hP1 hP2 hS => ?_)
  refine lv_aload_n hx hb dL_law_793 rfl (lv_at hl 2 rfl) ?_
  refine lv_aload_n hx hb dL_law_794 rfl (lv_at hl 0 rfl) ?_
  refine lv_iload_n hx hb dL_law_795 rfl (lv_at hl 3 rfl) ?_
  refine lv_iconst (v := 1) hx hb dL_law_796 (by decide) ?_
  refine lv_iadd hx hb dL_law_797 ?_
  refine va_sld hx hb hX hbl hbA hS h_1 dL_law_798 ?_
  refine lw_ci (va_runV (As := [.int (xs (nI i + 1).toNatClampNeg)]) (rest := [.int r]) ⟨hx, hb, hml, hown, hts⟩ (k_X12_poly l D cA adr2 hJ2 1000 (xs (nI i + 1).toNatClampNeg) hT2 M2 r M2' hc2) (cwV 1 hts hL_X12_poly rfl rfl rfl (by decide +kernel) ⟨Nat.le_of_ble_eq_true rfl, Nat.le_of_ble_eq_true rfl⟩) ⟨smPc_bl, smRv hE hP2 hT2 rfl (ci := 12) (q := (RX12, TX12, 54)) rfl, smPc_in [.ref (adr2 1000), .int (xs (nI i + 1).toNatClampNeg)] hE hP2⟩ rfl rfl hl.1 rfl (lv_room (Nat.le_of_ble_eq_true rfl)) dL_law_799 ⟨Nat.le_of_ble_eq_true rfl, Nat.le_of_ble_eq_true rfl⟩) hS hA2 hP1 hd2 (fun H locs hP2 hP1 hS => ?_)
  refine lv_icmp_eq (tgt := 1282) hx hb dL_law_802 (by decide) (fun _ => ?_) (fun c => absurd rfl c)
  exact kk _ _ hR _ _ hP1 hP2 hS _ hl
set_option maxHeartbeats 4000000 in
set_option maxRecDepth 100000 in
theorem lw_op_keepBase {p : Program} {l : Launch} {e : Env} {s : State} {m : MethodId} {below : List Frame} {meth : Method} {c : Code} {D : va_G} {cA : Nat → ClassId} {adr1 adr2 : Nat → Nat} {Rel : smM → smM → Prop} (hop : Op_keepBase Rel) {b L : Nat} {xs : Nat → Int32} (hL : L ≤ 2560) (C0 : lw_At p s m meth c b L xs) (hE : smEnv D cA s) (hJ1 : smJ 1 adr1) (hJ2 : smJ 2 adr2) (hA1 : ∀ q, smA 1 adr1 q → s.heap.size ≤ q) (hA2 : ∀ q, smA 2 adr2 q → s.heap.size ≤ q) (hd1 : ∀ q, smA 2 adr2 q → ¬ smA 1 adr1 q) (hd2 : ∀ q, smA 1 adr1 q → ¬ smA 2 adr2 q) {i : Nat} (hi : i + 5 ≤ L) (kk : ∀ M1 M2, Rel M1 M2 → ∀ H locs, smP D cA 1 adr1 M1 H → smP D cA 2 adr2 M2 H → va_S (fun q : Nat => s.heap.size ≤ q) s.heap H locs → ∀ ls, lv_has ls 4 [(0, .ref b), (1, .ref (adr1 0)), (2, .ref (adr2 1000)), (3, .int (nI i))] → W p l e room_1 s m #[Value.ref b] below meth c H locs 548 6688 (lw_Z below #[Value.ref b] s) (F0 m 1282 ls [])) {M1 M2 : smM} (hR : Rel M1 M2) {H : Heap} {locs : List Loc} (hP1 : smP D cA 1 adr1 M1 H) (hP2 : smP D cA 2 adr2 M2 H) (hS : va_S (fun q : Nat => s.heap.size ≤ q) s.heap H locs) {ls : Array Slot} (hl : lv_has ls 4 [(0, .ref b), (1, .ref (adr1 0)), (2, .ref (adr2 1000)), (3, .int (nI i))]) : W p l e room_1 s m #[Value.ref b] below meth c H locs 548 6688 (lw_Z below #[Value.ref b] s) (F0 m 807 ls []) := by
  obtain ⟨hx, hb, hr, hml, hown, hts, hX, hbl, hlocks, hgv⟩ := C0
  have hown : s.vm.findClass RL = some m.cls := hown
  have hbA : ¬ (fun q : Nat => s.heap.size ≤ q) b := Nat.not_le.mpr hbl
  have hT1 : smT 1 0 11 := ⟨Nat.le_refl _, by decide, by decide +kernel⟩
  have hT2 : smT 2 1000 12 := ⟨Nat.le_refl _, by decide, by decide +kernel⟩
  have h_1 : vp_in (nI i + 1) L := lw_idx hi hL (by decide : 1 < 5) (lw_nIa i 1)
  have h_2 : vp_in (nI i + 2) L := lw_idx hi hL (by decide : 2 < 5) (lw_nIa i 2)
  obtain ⟨r, M1', M2', hc1, hc2, hR⟩ := hop M1 M2 hR (xs (nI i + 1).toNatClampNeg) (xs (nI i + 2).toNatClampNeg)
  refine lv_aload_n hx hb dL_law_807 rfl (lv_at hl 1 rfl) ?_
  refine lv_aload_n hx hb dL_law_808 rfl (lv_at hl 0 rfl) ?_
  refine lv_iload_n hx hb dL_law_809 rfl (lv_at hl 3 rfl) ?_
  refine lv_iconst (v := 1) hx hb dL_law_810 (by decide) ?_
  refine lv_iadd hx hb dL_law_811 ?_
  refine va_sld hx hb hX hbl hbA hS h_1 dL_law_812 ?_
  refine lv_aload_n hx hb dL_law_813 rfl (lv_at hl 0 rfl) ?_
  refine lv_iload_n hx hb dL_law_814 rfl (lv_at hl 3 rfl) ?_
  refine lv_iconst (v := 2) hx hb dL_law_815 (by decide) ?_
  refine lv_iadd hx hb dL_law_816 ?_
  refine va_sld hx hb hX hbl hbA hS h_2 dL_law_817 ?_
  refine lw_ci (va_runV (As := [.int (xs (nI i + 1).toNatClampNeg), .int (xs (nI i + 2).toNatClampNeg)]) (rest := []) ⟨hx, hb, hml, hown, hts⟩ (k_X11_keepBase l D cA adr1 hJ1 0 (xs (nI i + 1).toNatClampNeg) (xs (nI i + 2).toNatClampNeg) hT1 M1 r M1' hc1) (cwV 2 hts hL_X11_keepBase rfl rfl rfl (by decide +kernel) ⟨Nat.le_of_ble_eq_true rfl, Nat.le_of_ble_eq_true rfl⟩) ⟨smPc_bl, smRv hE hP1 hT1 rfl (ci := 11) (q := (RX11, TX11, 11)) rfl, smPc_in [.ref (adr1 0), .int (xs (nI i + 1).toNatClampNeg), .int (xs (nI i + 2).toNatClampNeg)] hE hP1⟩ rfl rfl hl.1 rfl (lv_room (Nat.le_of_ble_eq_true rfl)) dL_law_818 ⟨Nat.le_of_ble_eq_true rfl, Nat.le_of_ble_eq_true rfl⟩) hS hA1 hP2 hd1 (fun H locs hP1 hP2 hS => ?_)
  refine lv_aload_n hx hb dL_law_821 rfl (lv_at hl 2 rfl) ?_
  refine lv_aload_n hx hb dL_law_822 rfl (lv_at hl 0 rfl) ?_
  refine lv_iload_n hx hb dL_law_823 rfl (lv_at hl 3 rfl) ?_
  refine lv_iconst (v := 1) hx hb dL_law_824 (by decide) ?_
  refine lv_iadd hx hb dL_law_825 ?_
  refine va_sld hx hb hX hbl hbA hS h_1 dL_law_826 ?_
  refine lv_aload_n hx hb dL_law_827 rfl (lv_at hl 0 rfl) ?_
  refine lv_iload_n hx hb dL_law_828 rfl (lv_at hl 3 rfl) ?_
  refine lv_iconst (v := 2) hx hb dL_law_829 (by decide) ?_
  refine lv_iadd hx hb dL_law_830 ?_
  refine va_sld hx hb hX hbl hbA hS h_2 dL_law_831 ?_
  refine lw_ci (va_runV (As := [.int (xs (nI i + 1).toNatClampNeg), .int (xs (nI i + 2).toNatClampNeg)]) (rest := [.int r]) ⟨hx, hb, hml, hown, hts⟩ (k_X12_keepBase l D cA adr2 hJ2 1000 (xs (nI i + 1).toNatClampNeg) (xs (nI i + 2).toNatClampNeg) hT2 M2 r M2' hc2) (cwV 2 hts hL_X12_keepBase rfl rfl rfl (by decide +kernel) ⟨Nat.le_of_ble_eq_true rfl, Nat.le_of_ble_eq_true rfl⟩) ⟨smPc_bl, smRv hE hP2 hT2 rfl (ci := 12) (q := (RX12, TX12, 54)) rfl, smPc_in [.ref (adr2 1000), .int (xs (nI i + 1).toNatClampNeg), .int (xs (nI i + 2).toNatClampNeg)] hE hP2⟩ rfl rfl hl.1 rfl (lv_room (Nat.le_of_ble_eq_true rfl)) dL_law_832 ⟨Nat.le_of_ble_eq_true rfl, Nat.le_of_ble_eq_true rfl⟩) hS hA2 hP1 hd2 (fun H locs hP2 hP1 hS => ?_)
  refine lv_icmp_eq (tgt := 1282) hx hb dL_law_835 (by decide) (fun _ => ?_) (fun c => absurd rfl c)
  exact kk _ _ hR _ _ hP1 hP2 hS _ hl
set_option maxHeartbeats 4000000 in
set_option maxRecDepth 100000 in
theorem lw_op_drop {p : Program} {l : Launch} {e : Env} {s : State} {m : MethodId} {below : List Frame} {meth : Method} {c : Code} {D : va_G} {cA : Nat → ClassId} {adr1 adr2 : Nat → Nat} {Rel : smM → smM → Prop} (hop : Op_drop Rel) {b L : Nat} {xs : Nat → Int32} (hL : L ≤ 2560) (C0 : lw_At p s m meth c b L xs) (hE : smEnv D cA s) (hJ1 : smJ 1 adr1) (hJ2 : smJ 2 adr2) (hA1 : ∀ q, smA 1 adr1 q → s.heap.size ≤ q) (hA2 : ∀ q, smA 2 adr2 q → s.heap.size ≤ q) (hd1 : ∀ q, smA 2 adr2 q → ¬ smA 1 adr1 q) (hd2 : ∀ q, smA 1 adr1 q → ¬ smA 2 adr2 q) {i : Nat} (hi : i + 5 ≤ L) (kk : ∀ M1 M2, Rel M1 M2 → ∀ H locs, smP D cA 1 adr1 M1 H → smP D cA 2 adr2 M2 H → va_S (fun q : Nat => s.heap.size ≤ q) s.heap H locs → ∀ ls, lv_has ls 4 [(0, .ref b), (1, .ref (adr1 0)), (2, .ref (adr2 1000)), (3, .int (nI i))] → W p l e room_1 s m #[Value.ref b] below meth c H locs 548 6688 (lw_Z below #[Value.ref b] s) (F0 m 1282 ls [])) {M1 M2 : smM} (hR : Rel M1 M2) {H : Heap} {locs : List Loc} (hP1 : smP D cA 1 adr1 M1 H) (hP2 : smP D cA 2 adr2 M2 H) (hS : va_S (fun q : Nat => s.heap.size ≤ q) s.heap H locs) {ls : Array Slot} (hl : lv_has ls 4 [(0, .ref b), (1, .ref (adr1 0)), (2, .ref (adr2 1000)), (3, .int (nI i))]) : W p l e room_1 s m #[Value.ref b] below meth c H locs 548 6688 (lw_Z below #[Value.ref b] s) (F0 m 840 ls []) := by
  obtain ⟨hx, hb, hr, hml, hown, hts, hX, hbl, hlocks, hgv⟩ := C0
  have hown : s.vm.findClass RL = some m.cls := hown
  have hbA : ¬ (fun q : Nat => s.heap.size ≤ q) b := Nat.not_le.mpr hbl
  have hT1 : smT 1 0 11 := ⟨Nat.le_refl _, by decide, by decide +kernel⟩
  have hT2 : smT 2 1000 12 := ⟨Nat.le_refl _, by decide, by decide +kernel⟩
  have h_1 : vp_in (nI i + 1) L := lw_idx hi hL (by decide : 1 < 5) (lw_nIa i 1)
  obtain ⟨r, M1', M2', hc1, hc2, hR⟩ := hop M1 M2 hR (xs (nI i + 1).toNatClampNeg)
  refine lv_aload_n hx hb dL_law_840 rfl (lv_at hl 1 rfl) ?_
  refine lv_aload_n hx hb dL_law_841 rfl (lv_at hl 0 rfl) ?_
  refine lv_iload_n hx hb dL_law_842 rfl (lv_at hl 3 rfl) ?_
  refine lv_iconst (v := 1) hx hb dL_law_843 (by decide) ?_
  refine lv_iadd hx hb dL_law_844 ?_
  refine va_sld hx hb hX hbl hbA hS h_1 dL_law_845 ?_
  refine lw_ci (va_runV (As := [.int (xs (nI i + 1).toNatClampNeg)]) (rest := []) ⟨hx, hb, hml, hown, hts⟩ (k_X11_drop l D cA adr1 hJ1 0 (xs (nI i + 1).toNatClampNeg) hT1 M1 r M1' hc1) (cwV 1 hts hL_X11_drop rfl rfl rfl (by decide +kernel) ⟨Nat.le_of_ble_eq_true rfl, Nat.le_of_ble_eq_true rfl⟩) ⟨smPc_bl, smRv hE hP1 hT1 rfl (ci := 11) (q := (RX11, TX11, 11)) rfl, smPc_in [.ref (adr1 0), .int (xs (nI i + 1).toNatClampNeg)] hE hP1⟩ rfl rfl hl.1 rfl (lv_room (Nat.le_of_ble_eq_true rfl)) dL_law_846 ⟨Nat.le_of_ble_eq_true rfl, Nat.le_of_ble_eq_true rfl⟩) hS hA1 hP2 hd1 (fun H locs hP1 hP2 hS => ?_)
  refine lv_aload_n hx hb dL_law_849 rfl (lv_at hl 2 rfl) ?_
  refine lv_aload_n hx hb dL_law_850 rfl (lv_at hl 0 rfl) ?_
  refine lv_iload_n hx hb dL_law_851 rfl (lv_at hl 3 rfl) ?_
  refine lv_iconst (v := 1) hx hb dL_law_852 (by decide) ?_
  refine lv_iadd hx hb dL_law_853 ?_
  refine va_sld hx hb hX hbl hbA hS h_1 dL_law_854 ?_
  refine lw_ci (va_runV (As := [.int (xs (nI i + 1).toNatClampNeg)]) (rest := [.int r]) ⟨hx, hb, hml, hown, hts⟩ (k_X12_drop l D cA adr2 hJ2 1000 (xs (nI i + 1).toNatClampNeg) hT2 M2 r M2' hc2) (cwV 1 hts hL_X12_drop rfl rfl rfl (by decide +kernel) ⟨Nat.le_of_ble_eq_true rfl, Nat.le_of_ble_eq_true rfl⟩) ⟨smPc_bl, smRv hE hP2 hT2 rfl (ci := 12) (q := (RX12, TX12, 54)) rfl, smPc_in [.ref (adr2 1000), .int (xs (nI i + 1).toNatClampNeg)] hE hP2⟩ rfl rfl hl.1 rfl (lv_room (Nat.le_of_ble_eq_true rfl)) dL_law_855 ⟨Nat.le_of_ble_eq_true rfl, Nat.le_of_ble_eq_true rfl⟩) hS hA2 hP1 hd2 (fun H locs hP2 hP1 hS => ?_)
  refine lv_icmp_eq (tgt := 1282) hx hb dL_law_858 (by decide) (fun _ => ?_) (fun c => absurd rfl c)
  exact kk _ _ hR _ _ hP1 hP2 hS _ hl
set_option maxHeartbeats 4000000 in
set_option maxRecDepth 100000 in
theorem lw_op_add {p : Program} {l : Launch} {e : Env} {s : State} {m : MethodId} {below : List Frame} {meth : Method} {c : Code} {D : va_G} {cA : Nat → ClassId} {adr1 adr2 : Nat → Nat} {Rel : smM → smM → Prop} (hop : Op_add Rel) {b L : Nat} {xs : Nat → Int32} (hL : L ≤ 2560) (C0 : lw_At p s m meth c b L xs) (hE : smEnv D cA s) (hJ1 : smJ 1 adr1) (hJ2 : smJ 2 adr2) (hA1 : ∀ q, smA 1 adr1 q → s.heap.size ≤ q) (hA2 : ∀ q, smA 2 adr2 q → s.heap.size ≤ q) (hd1 : ∀ q, smA 2 adr2 q → ¬ smA 1 adr1 q) (hd2 : ∀ q, smA 1 adr1 q → ¬ smA 2 adr2 q) {i : Nat} (hi : i + 5 ≤ L) (kk : ∀ M1 M2, Rel M1 M2 → ∀ H locs, smP D cA 1 adr1 M1 H → smP D cA 2 adr2 M2 H → va_S (fun q : Nat => s.heap.size ≤ q) s.heap H locs → ∀ ls, lv_has ls 4 [(0, .ref b), (1, .ref (adr1 0)), (2, .ref (adr2 1000)), (3, .int (nI i))] → W p l e room_1 s m #[Value.ref b] below meth c H locs 548 6688 (lw_Z below #[Value.ref b] s) (F0 m 1282 ls [])) {M1 M2 : smM} (hR : Rel M1 M2) {H : Heap} {locs : List Loc} (hP1 : smP D cA 1 adr1 M1 H) (hP2 : smP D cA 2 adr2 M2 H) (hS : va_S (fun q : Nat => s.heap.size ≤ q) s.heap H locs) {ls : Array Slot} (hl : lv_has ls 4 [(0, .ref b), (1, .ref (adr1 0)), (2, .ref (adr2 1000)), (3, .int (nI i))]) : W p l e room_1 s m #[Value.ref b] below meth c H locs 548 6688 (lw_Z below #[Value.ref b] s) (F0 m 863 ls []) := by
  obtain ⟨hx, hb, hr, hml, hown, hts, hX, hbl, hlocks, hgv⟩ := C0
  have hown : s.vm.findClass RL = some m.cls := hown
  have hbA : ¬ (fun q : Nat => s.heap.size ≤ q) b := Nat.not_le.mpr hbl
  have hT1 : smT 1 0 11 := ⟨Nat.le_refl _, by decide, by decide +kernel⟩
  have hT2 : smT 2 1000 12 := ⟨Nat.le_refl _, by decide, by decide +kernel⟩
  have h_1 : vp_in (nI i + 1) L := lw_idx hi hL (by decide : 1 < 5) (lw_nIa i 1)
  have h_2 : vp_in (nI i + 2) L := lw_idx hi hL (by decide : 2 < 5) (lw_nIa i 2)
  have h_3 : vp_in (nI i + 3) L := lw_idx hi hL (by decide : 3 < 5) (lw_nIa i 3)
  have h_4 : vp_in (nI i + 4) L := lw_idx hi hL (by decide : 4 < 5) (lw_nIa i 4)
  obtain ⟨r, M1', M2', hc1, hc2, hR⟩ := hop M1 M2 hR (xs (nI i + 1).toNatClampNeg) (xs (nI i + 2).toNatClampNeg) (xs (nI i + 3).toNatClampNeg) (xs (nI i + 4).toNatClampNeg)
  refine lv_aload_n hx hb dL_law_863 rfl (lv_at hl 1 rfl) ?_
  refine lv_aload_n hx hb dL_law_864 rfl (lv_at hl 0 rfl) ?_
  refine lv_iload_n hx hb dL_law_865 rfl (lv_at hl 3 rfl) ?_
  refine lv_iconst (v := 1) hx hb dL_law_866 (by decide) ?_
  refine lv_iadd hx hb dL_law_867 ?_
  refine va_sld hx hb hX hbl hbA hS h_1 dL_law_868 ?_
  refine lv_aload_n hx hb dL_law_869 rfl (lv_at hl 0 rfl) ?_
  refine lv_iload_n hx hb dL_law_870 rfl (lv_at hl 3 rfl) ?_
  refine lv_iconst (v := 2) hx hb dL_law_871 (by decide) ?_
  refine lv_iadd hx hb dL_law_872 ?_
  refine va_sld hx hb hX hbl hbA hS h_2 dL_law_873 ?_
  refine lv_aload_n hx hb dL_law_874 rfl (lv_at hl 0 rfl) ?_
  refine lv_iload_n hx hb dL_law_875 rfl (lv_at hl 3 rfl) ?_
  refine lv_iconst (v := 3) hx hb dL_law_876 (by decide) ?_
  refine lv_iadd hx hb dL_law_877 ?_
  refine va_sld hx hb hX hbl hbA hS h_3 dL_law_878 ?_
  refine lv_aload_n hx hb dL_law_879 rfl (lv_at hl 0 rfl) ?_
  refine lv_iload_n hx hb dL_law_880 rfl (lv_at hl 3 rfl) ?_
  refine lv_iconst (v := 4) hx hb dL_law_881 (by decide) ?_
  refine lv_iadd hx hb dL_law_882 ?_
  refine va_sld hx hb hX hbl hbA hS h_4 dL_law_883 ?_
  refine lw_ci (va_runV (As := [.int (xs (nI i + 1).toNatClampNeg), .int (xs (nI i + 2).toNatClampNeg), .int (xs (nI i + 3).toNatClampNeg), .int (xs (nI i + 4).toNatClampNeg)]) (rest := []) ⟨hx, hb, hml, hown, hts⟩ (k_X11_add l D cA adr1 hJ1 0 (xs (nI i + 1).toNatClampNeg) (xs (nI i + 2).toNatClampNeg) (xs (nI i + 3).toNatClampNeg) (xs (nI i + 4).toNatClampNeg) hT1 M1 r M1' hc1) (cwV 4 hts hL_X11_add rfl rfl rfl (by decide +kernel) ⟨Nat.le_of_ble_eq_true rfl, Nat.le_of_ble_eq_true rfl⟩) ⟨smPc_bl, smRv hE hP1 hT1 rfl (ci := 11) (q := (RX11, TX11, 11)) rfl, smPc_in [.ref (adr1 0), .int (xs (nI i + 1).toNatClampNeg), .int (xs (nI i + 2).toNatClampNeg), .int (xs (nI i + 3).toNatClampNeg), .int (xs (nI i + 4).toNatClampNeg)] hE hP1⟩ rfl rfl hl.1 rfl (lv_room (Nat.le_of_ble_eq_true rfl)) dL_law_884 ⟨Nat.le_of_ble_eq_true rfl, Nat.le_of_ble_eq_true rfl⟩) hS hA1 hP2 hd1 (fun H locs hP1 hP2 hS => ?_)
  refine lv_aload_n hx hb dL_law_887 rfl (lv_at hl 2 rfl) ?_
  refine lv_aload_n hx hb dL_law_888 rfl (lv_at hl 0 rfl) ?_
  refine lv_iload_n hx hb dL_law_889 rfl (lv_at hl 3 rfl) ?_
  refine lv_iconst (v := 1) hx hb dL_law_890 (by decide) ?_
  refine lv_iadd hx hb dL_law_891 ?_
  refine va_sld hx hb hX hbl hbA hS h_1 dL_law_892 ?_
  refine lv_aload_n hx hb dL_law_893 rfl (lv_at hl 0 rfl) ?_
  refine lv_iload_n hx hb dL_law_894 rfl (lv_at hl 3 rfl) ?_
  refine lv_iconst (v := 2) hx hb dL_law_895 (by decide) ?_
  refine lv_iadd hx hb dL_law_896 ?_
  refine va_sld hx hb hX hbl hbA hS h_2 dL_law_897 ?_
  refine lv_aload_n hx hb dL_law_898 rfl (lv_at hl 0 rfl) ?_
  refine lv_iload_n hx hb dL_law_899 rfl (lv_at hl 3 rfl) ?_
  refine lv_iconst (v := 3) hx hb dL_law_900 (by decide) ?_
  refine lv_iadd hx hb dL_law_901 ?_
  refine va_sld hx hb hX hbl hbA hS h_3 dL_law_902 ?_
  refine lv_aload_n hx hb dL_law_903 rfl (lv_at hl 0 rfl) ?_
  refine lv_iload_n hx hb dL_law_904 rfl (lv_at hl 3 rfl) ?_
  refine lv_iconst (v := 4) hx hb dL_law_905 (by decide) ?_
  refine lv_iadd hx hb dL_law_906 ?_
  refine va_sld hx hb hX hbl hbA hS h_4 dL_law_907 ?_
  refine lw_ci (va_runV (As := [.int (xs (nI i + 1).toNatClampNeg), .int (xs (nI i + 2).toNatClampNeg), .int (xs (nI i + 3).toNatClampNeg), .int (xs (nI i + 4).toNatClampNeg)]) (rest := [.int r]) ⟨hx, hb, hml, hown, hts⟩ (k_X12_add l D cA adr2 hJ2 1000 (xs (nI i + 1).toNatClampNeg) (xs (nI i + 2).toNatClampNeg) (xs (nI i + 3).toNatClampNeg) (xs (nI i + 4).toNatClampNeg) hT2 M2 r M2' hc2) (cwV 4 hts hL_X12_add rfl rfl rfl (by decide +kernel) ⟨Nat.le_of_ble_eq_true rfl, Nat.le_of_ble_eq_true rfl⟩) ⟨smPc_bl, smRv hE hP2 hT2 rfl (ci := 12) (q := (RX12, TX12, 54)) rfl, smPc_in [.ref (adr2 1000), .int (xs (nI i + 1).toNatClampNeg), .int (xs (nI i + 2).toNatClampNeg), .int (xs (nI i + 3).toNatClampNeg), .int (xs (nI i + 4).toNatClampNeg)] hE hP2⟩ rfl rfl hl.1 rfl (lv_room (Nat.le_of_ble_eq_true rfl)) dL_law_908 ⟨Nat.le_of_ble_eq_true rfl, Nat.le_of_ble_eq_true rfl⟩) hS hA2 hP1 hd2 (fun H locs hP2 hP1 hS => ?_)
  refine lv_icmp_eq (tgt := 1282) hx hb dL_law_911 (by decide) (fun _ => ?_) (fun c => absurd rfl c)
  exact kk _ _ hR _ _ hP1 hP2 hS _ hl
set_option maxHeartbeats 4000000 in
set_option maxRecDepth 100000 in
theorem lw_op_term {p : Program} {l : Launch} {e : Env} {s : State} {m : MethodId} {below : List Frame} {meth : Method} {c : Code} {D : va_G} {cA : Nat → ClassId} {adr1 adr2 : Nat → Nat} {Rel : smM → smM → Prop} (hop : Op_term Rel) {b L : Nat} {xs : Nat → Int32} (hL : L ≤ 2560) (C0 : lw_At p s m meth c b L xs) (hE : smEnv D cA s) (hJ1 : smJ 1 adr1) (hJ2 : smJ 2 adr2) (hA1 : ∀ q, smA 1 adr1 q → s.heap.size ≤ q) (hA2 : ∀ q, smA 2 adr2 q → s.heap.size ≤ q) (hd1 : ∀ q, smA 2 adr2 q → ¬ smA 1 adr1 q) (hd2 : ∀ q, smA 1 adr1 q → ¬ smA 2 adr2 q) {i : Nat} (hi : i + 5 ≤ L) (kk : ∀ M1 M2, Rel M1 M2 → ∀ H locs, smP D cA 1 adr1 M1 H → smP D cA 2 adr2 M2 H → va_S (fun q : Nat => s.heap.size ≤ q) s.heap H locs → ∀ ls, lv_has ls 4 [(0, .ref b), (1, .ref (adr1 0)), (2, .ref (adr2 1000)), (3, .int (nI i))] → W p l e room_1 s m #[Value.ref b] below meth c H locs 548 6688 (lw_Z below #[Value.ref b] s) (F0 m 1282 ls [])) {M1 M2 : smM} (hR : Rel M1 M2) {H : Heap} {locs : List Loc} (hP1 : smP D cA 1 adr1 M1 H) (hP2 : smP D cA 2 adr2 M2 H) (hS : va_S (fun q : Nat => s.heap.size ≤ q) s.heap H locs) {ls : Array Slot} (hl : lv_has ls 4 [(0, .ref b), (1, .ref (adr1 0)), (2, .ref (adr2 1000)), (3, .int (nI i))]) : W p l e room_1 s m #[Value.ref b] below meth c H locs 548 6688 (lw_Z below #[Value.ref b] s) (F0 m 916 ls []) := by
  obtain ⟨hx, hb, hr, hml, hown, hts, hX, hbl, hlocks, hgv⟩ := C0
  have hown : s.vm.findClass RL = some m.cls := hown
  have hbA : ¬ (fun q : Nat => s.heap.size ≤ q) b := Nat.not_le.mpr hbl
  have hT1 : smT 1 0 11 := ⟨Nat.le_refl _, by decide, by decide +kernel⟩
  have hT2 : smT 2 1000 12 := ⟨Nat.le_refl _, by decide, by decide +kernel⟩
  have h_1 : vp_in (nI i + 1) L := lw_idx hi hL (by decide : 1 < 5) (lw_nIa i 1)
  have h_2 : vp_in (nI i + 2) L := lw_idx hi hL (by decide : 2 < 5) (lw_nIa i 2)
  have h_3 : vp_in (nI i + 3) L := lw_idx hi hL (by decide : 3 < 5) (lw_nIa i 3)
  obtain ⟨r, hc1, hc2, hR⟩ := hop M1 M2 hR (xs (nI i + 1).toNatClampNeg) (xs (nI i + 2).toNatClampNeg) (xs (nI i + 3).toNatClampNeg)
  refine lv_aload_n hx hb dL_law_916 rfl (lv_at hl 1 rfl) ?_
  refine lv_aload_n hx hb dL_law_917 rfl (lv_at hl 0 rfl) ?_
  refine lv_iload_n hx hb dL_law_918 rfl (lv_at hl 3 rfl) ?_
  refine lv_iconst (v := 1) hx hb dL_law_919 (by decide) ?_
  refine lv_iadd hx hb dL_law_920 ?_
  refine va_sld hx hb hX hbl hbA hS h_1 dL_law_921 ?_
  refine lv_aload_n hx hb dL_law_922 rfl (lv_at hl 0 rfl) ?_
  refine lv_iload_n hx hb dL_law_923 rfl (lv_at hl 3 rfl) ?_
  refine lv_iconst (v := 2) hx hb dL_law_924 (by decide) ?_
  refine lv_iadd hx hb dL_law_925 ?_
  refine va_sld hx hb hX hbl hbA hS h_2 dL_law_926 ?_
  refine lv_aload_n hx hb dL_law_927 rfl (lv_at hl 0 rfl) ?_
  refine lv_iload_n hx hb dL_law_928 rfl (lv_at hl 3 rfl) ?_
  refine lv_iconst (v := 3) hx hb dL_law_929 (by decide) ?_
  refine lv_iadd hx hb dL_law_930 ?_
  refine va_sld hx hb hX hbl hbA hS h_3 dL_law_931 ?_
  refine lw_ci (va_runV (As := [.int (xs (nI i + 1).toNatClampNeg), .int (xs (nI i + 2).toNatClampNeg), .int (xs (nI i + 3).toNatClampNeg)]) (rest := []) ⟨hx, hb, hml, hown, hts⟩ (k_X11_term l D cA adr1 hJ1 0 (xs (nI i + 1).toNatClampNeg) (xs (nI i + 2).toNatClampNeg) (xs (nI i + 3).toNatClampNeg) hT1 M1 r hc1) (cwV 3 hts hL_X11_term rfl rfl rfl (by decide +kernel) ⟨Nat.le_of_ble_eq_true rfl, Nat.le_of_ble_eq_true rfl⟩) ⟨smPc_bl, smRv hE hP1 hT1 rfl (ci := 11) (q := (RX11, TX11, 11)) rfl, smPc_in [.ref (adr1 0), .int (xs (nI i + 1).toNatClampNeg), .int (xs (nI i + 2).toNatClampNeg), .int (xs (nI i + 3).toNatClampNeg)] hE hP1⟩ rfl rfl hl.1 rfl (lv_room (Nat.le_of_ble_eq_true rfl)) dL_law_932 ⟨Nat.le_of_ble_eq_true rfl, Nat.le_of_ble_eq_true rfl⟩) hS hA1 hP2 hd1 (fun H locs hP1 hP2 hS => ?_)
  refine lv_aload_n hx hb dL_law_935 rfl (lv_at hl 2 rfl) ?_
  refine lv_aload_n hx hb dL_law_936 rfl (lv_at hl 0 rfl) ?_
  refine lv_iload_n hx hb dL_law_937 rfl (lv_at hl 3 rfl) ?_
  refine lv_iconst (v := 1) hx hb dL_law_938 (by decide) ?_
  refine lv_iadd hx hb dL_law_939 ?_
  refine va_sld hx hb hX hbl hbA hS h_1 dL_law_940 ?_
  refine lv_aload_n hx hb dL_law_941 rfl (lv_at hl 0 rfl) ?_
  refine lv_iload_n hx hb dL_law_942 rfl (lv_at hl 3 rfl) ?_
  refine lv_iconst (v := 2) hx hb dL_law_943 (by decide) ?_
  refine lv_iadd hx hb dL_law_944 ?_
  refine va_sld hx hb hX hbl hbA hS h_2 dL_law_945 ?_
  refine lv_aload_n hx hb dL_law_946 rfl (lv_at hl 0 rfl) ?_
  refine lv_iload_n hx hb dL_law_947 rfl (lv_at hl 3 rfl) ?_
  refine lv_iconst (v := 3) hx hb dL_law_948 (by decide) ?_
  refine lv_iadd hx hb dL_law_949 ?_
  refine va_sld hx hb hX hbl hbA hS h_3 dL_law_950 ?_
  refine lw_ci (va_runV (As := [.int (xs (nI i + 1).toNatClampNeg), .int (xs (nI i + 2).toNatClampNeg), .int (xs (nI i + 3).toNatClampNeg)]) (rest := [.int r]) ⟨hx, hb, hml, hown, hts⟩ (k_X12_term l D cA adr2 hJ2 1000 (xs (nI i + 1).toNatClampNeg) (xs (nI i + 2).toNatClampNeg) (xs (nI i + 3).toNatClampNeg) hT2 M2 r hc2) (cwV 3 hts hL_X12_term rfl rfl rfl (by decide +kernel) ⟨Nat.le_of_ble_eq_true rfl, Nat.le_of_ble_eq_true rfl⟩) ⟨smPc_bl, smRv hE hP2 hT2 rfl (ci := 12) (q := (RX12, TX12, 54)) rfl, smPc_in [.ref (adr2 1000), .int (xs (nI i + 1).toNatClampNeg), .int (xs (nI i + 2).toNatClampNeg), .int (xs (nI i + 3).toNatClampNeg)] hE hP2⟩ rfl rfl hl.1 rfl (lv_room (Nat.le_of_ble_eq_true rfl)) dL_law_951 ⟨Nat.le_of_ble_eq_true rfl, Nat.le_of_ble_eq_true rfl⟩) hS hA2 hP1 hd2 (fun H locs hP2 hP1 hS => ?_)
  refine lv_icmp_eq (tgt := 1282) hx hb dL_law_954 (by decide) (fun _ => ?_) (fun c => absurd rfl c)
  exact kk _ _ hR _ _ hP1 hP2 hS _ hl
set_option maxHeartbeats 4000000 in
set_option maxRecDepth 100000 in
theorem lw_op_size {p : Program} {l : Launch} {e : Env} {s : State} {m : MethodId} {below : List Frame} {meth : Method} {c : Code} {D : va_G} {cA : Nat → ClassId} {adr1 adr2 : Nat → Nat} {Rel : smM → smM → Prop} (hop : Op_size Rel) {b L : Nat} {xs : Nat → Int32} (hL : L ≤ 2560) (C0 : lw_At p s m meth c b L xs) (hE : smEnv D cA s) (hJ1 : smJ 1 adr1) (hJ2 : smJ 2 adr2) (hA1 : ∀ q, smA 1 adr1 q → s.heap.size ≤ q) (hA2 : ∀ q, smA 2 adr2 q → s.heap.size ≤ q) (hd1 : ∀ q, smA 2 adr2 q → ¬ smA 1 adr1 q) (hd2 : ∀ q, smA 1 adr1 q → ¬ smA 2 adr2 q) {i : Nat} (hi : i + 5 ≤ L) (kk : ∀ M1 M2, Rel M1 M2 → ∀ H locs, smP D cA 1 adr1 M1 H → smP D cA 2 adr2 M2 H → va_S (fun q : Nat => s.heap.size ≤ q) s.heap H locs → ∀ ls, lv_has ls 4 [(0, .ref b), (1, .ref (adr1 0)), (2, .ref (adr2 1000)), (3, .int (nI i))] → W p l e room_1 s m #[Value.ref b] below meth c H locs 548 6688 (lw_Z below #[Value.ref b] s) (F0 m 1282 ls [])) {M1 M2 : smM} (hR : Rel M1 M2) {H : Heap} {locs : List Loc} (hP1 : smP D cA 1 adr1 M1 H) (hP2 : smP D cA 2 adr2 M2 H) (hS : va_S (fun q : Nat => s.heap.size ≤ q) s.heap H locs) {ls : Array Slot} (hl : lv_has ls 4 [(0, .ref b), (1, .ref (adr1 0)), (2, .ref (adr2 1000)), (3, .int (nI i))]) : W p l e room_1 s m #[Value.ref b] below meth c H locs 548 6688 (lw_Z below #[Value.ref b] s) (F0 m 959 ls []) := by
  obtain ⟨hx, hb, hr, hml, hown, hts, hX, hbl, hlocks, hgv⟩ := C0
  have hown : s.vm.findClass RL = some m.cls := hown
  have hbA : ¬ (fun q : Nat => s.heap.size ≤ q) b := Nat.not_le.mpr hbl
  have hT1 : smT 1 0 11 := ⟨Nat.le_refl _, by decide, by decide +kernel⟩
  have hT2 : smT 2 1000 12 := ⟨Nat.le_refl _, by decide, by decide +kernel⟩
  have h_1 : vp_in (nI i + 1) L := lw_idx hi hL (by decide : 1 < 5) (lw_nIa i 1)
  obtain ⟨r, hc1, hc2, hR⟩ := hop M1 M2 hR (xs (nI i + 1).toNatClampNeg)
  refine lv_aload_n hx hb dL_law_959 rfl (lv_at hl 1 rfl) ?_
  refine lv_aload_n hx hb dL_law_960 rfl (lv_at hl 0 rfl) ?_
  refine lv_iload_n hx hb dL_law_961 rfl (lv_at hl 3 rfl) ?_
  refine lv_iconst (v := 1) hx hb dL_law_962 (by decide) ?_
  refine lv_iadd hx hb dL_law_963 ?_
  refine va_sld hx hb hX hbl hbA hS h_1 dL_law_964 ?_
  refine lw_ci (va_runV (As := [.int (xs (nI i + 1).toNatClampNeg)]) (rest := []) ⟨hx, hb, hml, hown, hts⟩ (k_X11_size l D cA adr1 hJ1 0 (xs (nI i + 1).toNatClampNeg) hT1 M1 r hc1) (cwV 1 hts hL_X11_size rfl rfl rfl (by decide +kernel) ⟨Nat.le_of_ble_eq_true rfl, Nat.le_of_ble_eq_true rfl⟩) ⟨smPc_bl, smRv hE hP1 hT1 rfl (ci := 11) (q := (RX11, TX11, 11)) rfl, smPc_in [.ref (adr1 0), .int (xs (nI i + 1).toNatClampNeg)] hE hP1⟩ rfl rfl hl.1 rfl (lv_room (Nat.le_of_ble_eq_true rfl)) dL_law_965 ⟨Nat.le_of_ble_eq_true rfl, Nat.le_of_ble_eq_true rfl⟩) hS hA1 hP2 hd1 (fun H locs hP1 hP2 hS => ?_)
  refine lv_aload_n hx hb dL_law_968 rfl (lv_at hl 2 rfl) ?_
  refine lv_aload_n hx hb dL_law_969 rfl (lv_at hl 0 rfl) ?_
  refine lv_iload_n hx hb dL_law_970 rfl (lv_at hl 3 rfl) ?_
  refine lv_iconst (v := 1) hx hb dL_law_971 (by decide) ?_
  refine lv_iadd hx hb dL_law_972 ?_
  refine va_sld hx hb hX hbl hbA hS h_1 dL_law_973 ?_
  refine lw_ci (va_runV (As := [.int (xs (nI i + 1).toNatClampNeg)]) (rest := [.int r]) ⟨hx, hb, hml, hown, hts⟩ (k_X12_size l D cA adr2 hJ2 1000 (xs (nI i + 1).toNatClampNeg) hT2 M2 r hc2) (cwV 1 hts hL_X12_size rfl rfl rfl (by decide +kernel) ⟨Nat.le_of_ble_eq_true rfl, Nat.le_of_ble_eq_true rfl⟩) ⟨smPc_bl, smRv hE hP2 hT2 rfl (ci := 12) (q := (RX12, TX12, 54)) rfl, smPc_in [.ref (adr2 1000), .int (xs (nI i + 1).toNatClampNeg)] hE hP2⟩ rfl rfl hl.1 rfl (lv_room (Nat.le_of_ble_eq_true rfl)) dL_law_974 ⟨Nat.le_of_ble_eq_true rfl, Nat.le_of_ble_eq_true rfl⟩) hS hA2 hP1 hd2 (fun H locs hP2 hP1 hS => ?_)
  refine lv_icmp_eq (tgt := 1282) hx hb dL_law_977 (by decide) (fun _ => ?_) (fun c => absurd rfl c)
  exact kk _ _ hR _ _ hP1 hP2 hS _ hl
set_option maxHeartbeats 4000000 in
set_option maxRecDepth 100000 in
theorem lw_op_times {p : Program} {l : Launch} {e : Env} {s : State} {m : MethodId} {below : List Frame} {meth : Method} {c : Code} {D : va_G} {cA : Nat → ClassId} {adr1 adr2 : Nat → Nat} {Rel : smM → smM → Prop} (hop : Op_times Rel) {b L : Nat} {xs : Nat → Int32} (hL : L ≤ 2560) (C0 : lw_At p s m meth c b L xs) (hE : smEnv D cA s) (hJ1 : smJ 1 adr1) (hJ2 : smJ 2 adr2) (hA1 : ∀ q, smA 1 adr1 q → s.heap.size ≤ q) (hA2 : ∀ q, smA 2 adr2 q → s.heap.size ≤ q) (hd1 : ∀ q, smA 2 adr2 q → ¬ smA 1 adr1 q) (hd2 : ∀ q, smA 1 adr1 q → ¬ smA 2 adr2 q) {i : Nat} (hi : i + 5 ≤ L) (kk : ∀ M1 M2, Rel M1 M2 → ∀ H locs, smP D cA 1 adr1 M1 H → smP D cA 2 adr2 M2 H → va_S (fun q : Nat => s.heap.size ≤ q) s.heap H locs → ∀ ls, lv_has ls 4 [(0, .ref b), (1, .ref (adr1 0)), (2, .ref (adr2 1000)), (3, .int (nI i))] → W p l e room_1 s m #[Value.ref b] below meth c H locs 548 6688 (lw_Z below #[Value.ref b] s) (F0 m 1282 ls [])) {M1 M2 : smM} (hR : Rel M1 M2) {H : Heap} {locs : List Loc} (hP1 : smP D cA 1 adr1 M1 H) (hP2 : smP D cA 2 adr2 M2 H) (hS : va_S (fun q : Nat => s.heap.size ≤ q) s.heap H locs) {ls : Array Slot} (hl : lv_has ls 4 [(0, .ref b), (1, .ref (adr1 0)), (2, .ref (adr2 1000)), (3, .int (nI i))]) : W p l e room_1 s m #[Value.ref b] below meth c H locs 548 6688 (lw_Z below #[Value.ref b] s) (F0 m 982 ls []) := by
  obtain ⟨hx, hb, hr, hml, hown, hts, hX, hbl, hlocks, hgv⟩ := C0
  have hown : s.vm.findClass RL = some m.cls := hown
  have hbA : ¬ (fun q : Nat => s.heap.size ≤ q) b := Nat.not_le.mpr hbl
  have hT1 : smT 1 0 11 := ⟨Nat.le_refl _, by decide, by decide +kernel⟩
  have hT2 : smT 2 1000 12 := ⟨Nat.le_refl _, by decide, by decide +kernel⟩
  have h_1 : vp_in (nI i + 1) L := lw_idx hi hL (by decide : 1 < 5) (lw_nIa i 1)
  have h_2 : vp_in (nI i + 2) L := lw_idx hi hL (by decide : 2 < 5) (lw_nIa i 2)
  have h_3 : vp_in (nI i + 3) L := lw_idx hi hL (by decide : 3 < 5) (lw_nIa i 3)
  obtain ⟨r, M1', M2', hc1, hc2, hR⟩ := hop M1 M2 hR (xs (nI i + 1).toNatClampNeg) (xs (nI i + 2).toNatClampNeg) (xs (nI i + 3).toNatClampNeg)
  refine lv_aload_n hx hb dL_law_982 rfl (lv_at hl 1 rfl) ?_
  refine lv_aload_n hx hb dL_law_983 rfl (lv_at hl 0 rfl) ?_
  refine lv_iload_n hx hb dL_law_984 rfl (lv_at hl 3 rfl) ?_
  refine lv_iconst (v := 1) hx hb dL_law_985 (by decide) ?_
  refine lv_iadd hx hb dL_law_986 ?_
  refine va_sld hx hb hX hbl hbA hS h_1 dL_law_987 ?_
  refine lv_aload_n hx hb dL_law_988 rfl (lv_at hl 0 rfl) ?_
  refine lv_iload_n hx hb dL_law_989 rfl (lv_at hl 3 rfl) ?_
  refine lv_iconst (v := 2) hx hb dL_law_990 (by decide) ?_
  refine lv_iadd hx hb dL_law_991 ?_
  refine va_sld hx hb hX hbl hbA hS h_2 dL_law_992 ?_
  refine lv_aload_n hx hb dL_law_993 rfl (lv_at hl 0 rfl) ?_
  refine lv_iload_n hx hb dL_law_994 rfl (lv_at hl 3 rfl) ?_
  refine lv_iconst (v := 3) hx hb dL_law_995 (by decide) ?_
  refine lv_iadd hx hb dL_law_996 ?_
  refine va_sld hx hb hX hbl hbA hS h_3 dL_law_997 ?_
  refine lw_ci (va_runV (As := [.int (xs (nI i + 1).toNatClampNeg), .int (xs (nI i + 2).toNatClampNeg), .int (xs (nI i + 3).toNatClampNeg)]) (rest := []) ⟨hx, hb, hml, hown, hts⟩ (k_X11_times l D cA adr1 hJ1 0 (xs (nI i + 1).toNatClampNeg) (xs (nI i + 2).toNatClampNeg) (xs (nI i + 3).toNatClampNeg) hT1 M1 r M1' hc1) (cwV 3 hts hL_X11_times rfl rfl rfl (by decide +kernel) ⟨Nat.le_of_ble_eq_true rfl, Nat.le_of_ble_eq_true rfl⟩) ⟨smPc_bl, smRv hE hP1 hT1 rfl (ci := 11) (q := (RX11, TX11, 11)) rfl, smPc_in [.ref (adr1 0), .int (xs (nI i + 1).toNatClampNeg), .int (xs (nI i + 2).toNatClampNeg), .int (xs (nI i + 3).toNatClampNeg)] hE hP1⟩ rfl rfl hl.1 rfl (lv_room (Nat.le_of_ble_eq_true rfl)) dL_law_998 ⟨Nat.le_of_ble_eq_true rfl, Nat.le_of_ble_eq_true rfl⟩) hS hA1 hP2 hd1 (fun H locs hP1 hP2 hS => ?_)
  refine lv_aload_n hx hb dL_law_1001 rfl (lv_at hl 2 rfl) ?_
  refine lv_aload_n hx hb dL_law_1002 rfl (lv_at hl 0 rfl) ?_
  refine lv_iload_n hx hb dL_law_1003 rfl (lv_at hl 3 rfl) ?_
  refine lv_iconst (v := 1) hx hb dL_law_1004 (by decide) ?_
  refine lv_iadd hx hb dL_law_1005 ?_
  refine va_sld hx hb hX hbl hbA hS h_1 dL_law_1006 ?_
  refine lv_aload_n hx hb dL_law_1007 rfl (lv_at hl 0 rfl) ?_
  refine lv_iload_n hx hb dL_law_1008 rfl (lv_at hl 3 rfl) ?_
  refine lv_iconst (v := 2) hx hb dL_law_1009 (by decide) ?_
  refine lv_iadd hx hb dL_law_1010 ?_
  refine va_sld hx hb hX hbl hbA hS h_2 dL_law_1011 ?_
  refine lv_aload_n hx hb dL_law_1012 rfl (lv_at hl 0 rfl) ?_
  refine lv_iload_n hx hb dL_law_1013 rfl (lv_at hl 3 rfl) ?_
  refine lv_iconst (v := 3) hx hb dL_law_1014 (by decide) ?_
  refine lv_iadd hx hb dL_law_1015 ?_
  refine va_sld hx hb hX hbl hbA hS h_3 dL_law_1016 ?_
  refine lw_ci (va_runV (As := [.int (xs (nI i + 1).toNatClampNeg), .int (xs (nI i + 2).toNatClampNeg), .int (xs (nI i + 3).toNatClampNeg)]) (rest := [.int r]) ⟨hx, hb, hml, hown, hts⟩ (k_X12_times l D cA adr2 hJ2 1000 (xs (nI i + 1).toNatClampNeg) (xs (nI i + 2).toNatClampNeg) (xs (nI i + 3).toNatClampNeg) hT2 M2 r M2' hc2) (cwV 3 hts hL_X12_times rfl rfl rfl (by decide +kernel) ⟨Nat.le_of_ble_eq_true rfl, Nat.le_of_ble_eq_true rfl⟩) ⟨smPc_bl, smRv hE hP2 hT2 rfl (ci := 12) (q := (RX12, TX12, 54)) rfl, smPc_in [.ref (adr2 1000), .int (xs (nI i + 1).toNatClampNeg), .int (xs (nI i + 2).toNatClampNeg), .int (xs (nI i + 3).toNatClampNeg)] hE hP2⟩ rfl rfl hl.1 rfl (lv_room (Nat.le_of_ble_eq_true rfl)) dL_law_1017 ⟨Nat.le_of_ble_eq_true rfl, Nat.le_of_ble_eq_true rfl⟩) hS hA2 hP1 hd2 (fun H locs hP2 hP1 hS => ?_)
  refine lv_icmp_eq (tgt := 1282) hx hb dL_law_1020 (by decide) (fun _ => ?_) (fun c => absurd rfl c)
  exact kk _ _ hR _ _ hP1 hP2 hS _ hl
set_option maxHeartbeats 4000000 in
set_option maxRecDepth 100000 in
theorem lw_op_plus {p : Program} {l : Launch} {e : Env} {s : State} {m : MethodId} {below : List Frame} {meth : Method} {c : Code} {D : va_G} {cA : Nat → ClassId} {adr1 adr2 : Nat → Nat} {Rel : smM → smM → Prop} (hop : Op_plus Rel) {b L : Nat} {xs : Nat → Int32} (hL : L ≤ 2560) (C0 : lw_At p s m meth c b L xs) (hE : smEnv D cA s) (hJ1 : smJ 1 adr1) (hJ2 : smJ 2 adr2) (hA1 : ∀ q, smA 1 adr1 q → s.heap.size ≤ q) (hA2 : ∀ q, smA 2 adr2 q → s.heap.size ≤ q) (hd1 : ∀ q, smA 2 adr2 q → ¬ smA 1 adr1 q) (hd2 : ∀ q, smA 1 adr1 q → ¬ smA 2 adr2 q) {i : Nat} (hi : i + 5 ≤ L) (kk : ∀ M1 M2, Rel M1 M2 → ∀ H locs, smP D cA 1 adr1 M1 H → smP D cA 2 adr2 M2 H → va_S (fun q : Nat => s.heap.size ≤ q) s.heap H locs → ∀ ls, lv_has ls 4 [(0, .ref b), (1, .ref (adr1 0)), (2, .ref (adr2 1000)), (3, .int (nI i))] → W p l e room_1 s m #[Value.ref b] below meth c H locs 548 6688 (lw_Z below #[Value.ref b] s) (F0 m 1282 ls [])) {M1 M2 : smM} (hR : Rel M1 M2) {H : Heap} {locs : List Loc} (hP1 : smP D cA 1 adr1 M1 H) (hP2 : smP D cA 2 adr2 M2 H) (hS : va_S (fun q : Nat => s.heap.size ≤ q) s.heap H locs) {ls : Array Slot} (hl : lv_has ls 4 [(0, .ref b), (1, .ref (adr1 0)), (2, .ref (adr2 1000)), (3, .int (nI i))]) : W p l e room_1 s m #[Value.ref b] below meth c H locs 548 6688 (lw_Z below #[Value.ref b] s) (F0 m 1025 ls []) := by
  obtain ⟨hx, hb, hr, hml, hown, hts, hX, hbl, hlocks, hgv⟩ := C0
  have hown : s.vm.findClass RL = some m.cls := hown
  have hbA : ¬ (fun q : Nat => s.heap.size ≤ q) b := Nat.not_le.mpr hbl
  have hT1 : smT 1 0 11 := ⟨Nat.le_refl _, by decide, by decide +kernel⟩
  have hT2 : smT 2 1000 12 := ⟨Nat.le_refl _, by decide, by decide +kernel⟩
  have h_1 : vp_in (nI i + 1) L := lw_idx hi hL (by decide : 1 < 5) (lw_nIa i 1)
  have h_2 : vp_in (nI i + 2) L := lw_idx hi hL (by decide : 2 < 5) (lw_nIa i 2)
  have h_3 : vp_in (nI i + 3) L := lw_idx hi hL (by decide : 3 < 5) (lw_nIa i 3)
  obtain ⟨r, M1', M2', hc1, hc2, hR⟩ := hop M1 M2 hR (xs (nI i + 1).toNatClampNeg) (xs (nI i + 2).toNatClampNeg) (xs (nI i + 3).toNatClampNeg)
  refine lv_aload_n hx hb dL_law_1025 rfl (lv_at hl 1 rfl) ?_
  refine lv_aload_n hx hb dL_law_1026 rfl (lv_at hl 0 rfl) ?_
  refine lv_iload_n hx hb dL_law_1027 rfl (lv_at hl 3 rfl) ?_
  refine lv_iconst (v := 1) hx hb dL_law_1028 (by decide) ?_
  refine lv_iadd hx hb dL_law_1029 ?_
  refine va_sld hx hb hX hbl hbA hS h_1 dL_law_1030 ?_
  refine lv_aload_n hx hb dL_law_1031 rfl (lv_at hl 0 rfl) ?_
  refine lv_iload_n hx hb dL_law_1032 rfl (lv_at hl 3 rfl) ?_
  refine lv_iconst (v := 2) hx hb dL_law_1033 (by decide) ?_
  refine lv_iadd hx hb dL_law_1034 ?_
  refine va_sld hx hb hX hbl hbA hS h_2 dL_law_1035 ?_
  refine lv_aload_n hx hb dL_law_1036 rfl (lv_at hl 0 rfl) ?_
  refine lv_iload_n hx hb dL_law_1037 rfl (lv_at hl 3 rfl) ?_
  refine lv_iconst (v := 3) hx hb dL_law_1038 (by decide) ?_
  refine lv_iadd hx hb dL_law_1039 ?_
  refine va_sld hx hb hX hbl hbA hS h_3 dL_law_1040 ?_
  refine lw_ci (va_runV (As := [.int (xs (nI i + 1).toNatClampNeg), .int (xs (nI i + 2).toNatClampNeg), .int (xs (nI i + 3).toNatClampNeg)]) (rest := []) ⟨hx, hb, hml, hown, hts⟩ (k_X11_plus l D cA adr1 hJ1 0 (xs (nI i + 1).toNatClampNeg) (xs (nI i + 2).toNatClampNeg) (xs (nI i + 3).toNatClampNeg) hT1 M1 r M1' hc1) (cwV 3 hts hL_X11_plus rfl rfl rfl (by decide +kernel) ⟨Nat.le_of_ble_eq_true rfl, Nat.le_of_ble_eq_true rfl⟩) ⟨smPc_bl, smRv hE hP1 hT1 rfl (ci := 11) (q := (RX11, TX11, 11)) rfl, smPc_in [.ref (adr1 0), .int (xs (nI i + 1).toNatClampNeg), .int (xs (nI i + 2).toNatClampNeg), .int (xs (nI i + 3).toNatClampNeg)] hE hP1⟩ rfl rfl hl.1 rfl (lv_room (Nat.le_of_ble_eq_true rfl)) dL_law_1041 ⟨Nat.le_of_ble_eq_true rfl, Nat.le_of_ble_eq_true rfl⟩) hS hA1 hP2 hd1 (fun H locs hP1 hP2 hS => ?_)
  refine lv_aload_n hx hb dL_law_1044 rfl (lv_at hl 2 rfl) ?_
  refine lv_aload_n hx hb dL_law_1045 rfl (lv_at hl 0 rfl) ?_
  refine lv_iload_n hx hb dL_law_1046 rfl (lv_at hl 3 rfl) ?_
  refine lv_iconst (v := 1) hx hb dL_law_1047 (by decide) ?_
  refine lv_iadd hx hb dL_law_1048 ?_
  refine va_sld hx hb hX hbl hbA hS h_1 dL_law_1049 ?_
  refine lv_aload_n hx hb dL_law_1050 rfl (lv_at hl 0 rfl) ?_
  refine lv_iload_n hx hb dL_law_1051 rfl (lv_at hl 3 rfl) ?_
  refine lv_iconst (v := 2) hx hb dL_law_1052 (by decide) ?_
  refine lv_iadd hx hb dL_law_1053 ?_
  refine va_sld hx hb hX hbl hbA hS h_2 dL_law_1054 ?_
  refine lv_aload_n hx hb dL_law_1055 rfl (lv_at hl 0 rfl) ?_
  refine lv_iload_n hx hb dL_law_1056 rfl (lv_at hl 3 rfl) ?_
  refine lv_iconst (v := 3) hx hb dL_law_1057 (by decide) ?_
  refine lv_iadd hx hb dL_law_1058 ?_
  refine va_sld hx hb hX hbl hbA hS h_3 dL_law_1059 ?_
  refine lw_ci (va_runV (As := [.int (xs (nI i + 1).toNatClampNeg), .int (xs (nI i + 2).toNatClampNeg), .int (xs (nI i + 3).toNatClampNeg)]) (rest := [.int r]) ⟨hx, hb, hml, hown, hts⟩ (k_X12_plus l D cA adr2 hJ2 1000 (xs (nI i + 1).toNatClampNeg) (xs (nI i + 2).toNatClampNeg) (xs (nI i + 3).toNatClampNeg) hT2 M2 r M2' hc2) (cwV 3 hts hL_X12_plus rfl rfl rfl (by decide +kernel) ⟨Nat.le_of_ble_eq_true rfl, Nat.le_of_ble_eq_true rfl⟩) ⟨smPc_bl, smRv hE hP2 hT2 rfl (ci := 12) (q := (RX12, TX12, 54)) rfl, smPc_in [.ref (adr2 1000), .int (xs (nI i + 1).toNatClampNeg), .int (xs (nI i + 2).toNatClampNeg), .int (xs (nI i + 3).toNatClampNeg)] hE hP2⟩ rfl rfl hl.1 rfl (lv_room (Nat.le_of_ble_eq_true rfl)) dL_law_1060 ⟨Nat.le_of_ble_eq_true rfl, Nat.le_of_ble_eq_true rfl⟩) hS hA2 hP1 hd2 (fun H locs hP2 hP1 hS => ?_)
  refine lv_icmp_eq (tgt := 1282) hx hb dL_law_1063 (by decide) (fun _ => ?_) (fun c => absurd rfl c)
  exact kk _ _ hR _ _ hP1 hP2 hS _ hl
set_option maxHeartbeats 4000000 in
set_option maxRecDepth 100000 in
theorem lw_op_degree {p : Program} {l : Launch} {e : Env} {s : State} {m : MethodId} {below : List Frame} {meth : Method} {c : Code} {D : va_G} {cA : Nat → ClassId} {adr1 adr2 : Nat → Nat} {Rel : smM → smM → Prop} (hop : Op_degree Rel) {b L : Nat} {xs : Nat → Int32} (hL : L ≤ 2560) (C0 : lw_At p s m meth c b L xs) (hE : smEnv D cA s) (hJ1 : smJ 1 adr1) (hJ2 : smJ 2 adr2) (hA1 : ∀ q, smA 1 adr1 q → s.heap.size ≤ q) (hA2 : ∀ q, smA 2 adr2 q → s.heap.size ≤ q) (hd1 : ∀ q, smA 2 adr2 q → ¬ smA 1 adr1 q) (hd2 : ∀ q, smA 1 adr1 q → ¬ smA 2 adr2 q) {i : Nat} (hi : i + 5 ≤ L) (kk : ∀ M1 M2, Rel M1 M2 → ∀ H locs, smP D cA 1 adr1 M1 H → smP D cA 2 adr2 M2 H → va_S (fun q : Nat => s.heap.size ≤ q) s.heap H locs → ∀ ls, lv_has ls 4 [(0, .ref b), (1, .ref (adr1 0)), (2, .ref (adr2 1000)), (3, .int (nI i))] → W p l e room_1 s m #[Value.ref b] below meth c H locs 548 6688 (lw_Z below #[Value.ref b] s) (F0 m 1282 ls [])) {M1 M2 : smM} (hR : Rel M1 M2) {H : Heap} {locs : List Loc} (hP1 : smP D cA 1 adr1 M1 H) (hP2 : smP D cA 2 adr2 M2 H) (hS : va_S (fun q : Nat => s.heap.size ≤ q) s.heap H locs) {ls : Array Slot} (hl : lv_has ls 4 [(0, .ref b), (1, .ref (adr1 0)), (2, .ref (adr2 1000)), (3, .int (nI i))]) : W p l e room_1 s m #[Value.ref b] below meth c H locs 548 6688 (lw_Z below #[Value.ref b] s) (F0 m 1068 ls []) := by
  obtain ⟨hx, hb, hr, hml, hown, hts, hX, hbl, hlocks, hgv⟩ := C0
  have hown : s.vm.findClass RL = some m.cls := hown
  have hbA : ¬ (fun q : Nat => s.heap.size ≤ q) b := Nat.not_le.mpr hbl
  have hT1 : smT 1 0 11 := ⟨Nat.le_refl _, by decide, by decide +kernel⟩
  have hT2 : smT 2 1000 12 := ⟨Nat.le_refl _, by decide, by decide +kernel⟩
  have h_1 : vp_in (nI i + 1) L := lw_idx hi hL (by decide : 1 < 5) (lw_nIa i 1)
  obtain ⟨r, hc1, hc2, hR⟩ := hop M1 M2 hR (xs (nI i + 1).toNatClampNeg)
  refine lv_aload_n hx hb dL_law_1068 rfl (lv_at hl 1 rfl) ?_
  refine lv_aload_n hx hb dL_law_1069 rfl (lv_at hl 0 rfl) ?_
  refine lv_iload_n hx hb dL_law_1070 rfl (lv_at hl 3 rfl) ?_
  refine lv_iconst (v := 1) hx hb dL_law_1071 (by decide) ?_
  refine lv_iadd hx hb dL_law_1072 ?_
  refine va_sld hx hb hX hbl hbA hS h_1 dL_law_1073 ?_
  refine lw_ci (va_runV (As := [.int (xs (nI i + 1).toNatClampNeg)]) (rest := []) ⟨hx, hb, hml, hown, hts⟩ (k_X11_degree l D cA adr1 hJ1 0 (xs (nI i + 1).toNatClampNeg) hT1 M1 r hc1) (cwV 1 hts hL_X11_degree rfl rfl rfl (by decide +kernel) ⟨Nat.le_of_ble_eq_true rfl, Nat.le_of_ble_eq_true rfl⟩) ⟨smPc_bl, smRv hE hP1 hT1 rfl (ci := 11) (q := (RX11, TX11, 11)) rfl, smPc_in [.ref (adr1 0), .int (xs (nI i + 1).toNatClampNeg)] hE hP1⟩ rfl rfl hl.1 rfl (lv_room (Nat.le_of_ble_eq_true rfl)) dL_law_1074 ⟨Nat.le_of_ble_eq_true rfl, Nat.le_of_ble_eq_true rfl⟩) hS hA1 hP2 hd1 (fun H locs hP1 hP2 hS => ?_)
  refine lv_aload_n hx hb dL_law_1077 rfl (lv_at hl 2 rfl) ?_
  refine lv_aload_n hx hb dL_law_1078 rfl (lv_at hl 0 rfl) ?_
  refine lv_iload_n hx hb dL_law_1079 rfl (lv_at hl 3 rfl) ?_
  refine lv_iconst (v := 1) hx hb dL_law_1080 (by decide) ?_
  refine lv_iadd hx hb dL_law_1081 ?_
  refine va_sld hx hb hX hbl hbA hS h_1 dL_law_1082 ?_
  refine lw_ci (va_runV (As := [.int (xs (nI i + 1).toNatClampNeg)]) (rest := [.int r]) ⟨hx, hb, hml, hown, hts⟩ (k_X12_degree l D cA adr2 hJ2 1000 (xs (nI i + 1).toNatClampNeg) hT2 M2 r hc2) (cwV 1 hts hL_X12_degree rfl rfl rfl (by decide +kernel) ⟨Nat.le_of_ble_eq_true rfl, Nat.le_of_ble_eq_true rfl⟩) ⟨smPc_bl, smRv hE hP2 hT2 rfl (ci := 12) (q := (RX12, TX12, 54)) rfl, smPc_in [.ref (adr2 1000), .int (xs (nI i + 1).toNatClampNeg)] hE hP2⟩ rfl rfl hl.1 rfl (lv_room (Nat.le_of_ble_eq_true rfl)) dL_law_1083 ⟨Nat.le_of_ble_eq_true rfl, Nat.le_of_ble_eq_true rfl⟩) hS hA2 hP1 hd2 (fun H locs hP2 hP1 hS => ?_)
  refine lv_icmp_eq (tgt := 1282) hx hb dL_law_1086 (by decide) (fun _ => ?_) (fun c => absurd rfl c)
  exact kk _ _ hR _ _ hP1 hP2 hS _ hl
set_option maxHeartbeats 4000000 in
set_option maxRecDepth 100000 in
theorem lw_op_leads {p : Program} {l : Launch} {e : Env} {s : State} {m : MethodId} {below : List Frame} {meth : Method} {c : Code} {D : va_G} {cA : Nat → ClassId} {adr1 adr2 : Nat → Nat} {Rel : smM → smM → Prop} (hop : Op_leads Rel) {b L : Nat} {xs : Nat → Int32} (hL : L ≤ 2560) (C0 : lw_At p s m meth c b L xs) (hE : smEnv D cA s) (hJ1 : smJ 1 adr1) (hJ2 : smJ 2 adr2) (hA1 : ∀ q, smA 1 adr1 q → s.heap.size ≤ q) (hA2 : ∀ q, smA 2 adr2 q → s.heap.size ≤ q) (hd1 : ∀ q, smA 2 adr2 q → ¬ smA 1 adr1 q) (hd2 : ∀ q, smA 1 adr1 q → ¬ smA 2 adr2 q) {i : Nat} (hi : i + 5 ≤ L) (kk : ∀ M1 M2, Rel M1 M2 → ∀ H locs, smP D cA 1 adr1 M1 H → smP D cA 2 adr2 M2 H → va_S (fun q : Nat => s.heap.size ≤ q) s.heap H locs → ∀ ls, lv_has ls 4 [(0, .ref b), (1, .ref (adr1 0)), (2, .ref (adr2 1000)), (3, .int (nI i))] → W p l e room_1 s m #[Value.ref b] below meth c H locs 548 6688 (lw_Z below #[Value.ref b] s) (F0 m 1282 ls [])) {M1 M2 : smM} (hR : Rel M1 M2) {H : Heap} {locs : List Loc} (hP1 : smP D cA 1 adr1 M1 H) (hP2 : smP D cA 2 adr2 M2 H) (hS : va_S (fun q : Nat => s.heap.size ≤ q) s.heap H locs) {ls : Array Slot} (hl : lv_has ls 4 [(0, .ref b), (1, .ref (adr1 0)), (2, .ref (adr2 1000)), (3, .int (nI i))]) : W p l e room_1 s m #[Value.ref b] below meth c H locs 548 6688 (lw_Z below #[Value.ref b] s) (F0 m 1091 ls []) := by
  obtain ⟨hx, hb, hr, hml, hown, hts, hX, hbl, hlocks, hgv⟩ := C0
  have hown : s.vm.findClass RL = some m.cls := hown
  have hbA : ¬ (fun q : Nat => s.heap.size ≤ q) b := Nat.not_le.mpr hbl
  have hT1 : smT 1 0 11 := ⟨Nat.le_refl _, by decide, by decide +kernel⟩
  have hT2 : smT 2 1000 12 := ⟨Nat.le_refl _, by decide, by decide +kernel⟩
  have h_1 : vp_in (nI i + 1) L := lw_idx hi hL (by decide : 1 < 5) (lw_nIa i 1)
  have h_2 : vp_in (nI i + 2) L := lw_idx hi hL (by decide : 2 < 5) (lw_nIa i 2)
  obtain ⟨r, M1', M2', hc1, hc2, hR⟩ := hop M1 M2 hR (xs (nI i + 1).toNatClampNeg) (xs (nI i + 2).toNatClampNeg)
  refine lv_aload_n hx hb dL_law_1091 rfl (lv_at hl 1 rfl) ?_
  refine lv_aload_n hx hb dL_law_1092 rfl (lv_at hl 0 rfl) ?_
  refine lv_iload_n hx hb dL_law_1093 rfl (lv_at hl 3 rfl) ?_
  refine lv_iconst (v := 1) hx hb dL_law_1094 (by decide) ?_
  refine lv_iadd hx hb dL_law_1095 ?_
  refine va_sld hx hb hX hbl hbA hS h_1 dL_law_1096 ?_
  refine lv_aload_n hx hb dL_law_1097 rfl (lv_at hl 0 rfl) ?_
  refine lv_iload_n hx hb dL_law_1098 rfl (lv_at hl 3 rfl) ?_
  refine lv_iconst (v := 2) hx hb dL_law_1099 (by decide) ?_
  refine lv_iadd hx hb dL_law_1100 ?_
  refine va_sld hx hb hX hbl hbA hS h_2 dL_law_1101 ?_
  refine lw_ci (va_runV (As := [.int (xs (nI i + 1).toNatClampNeg), .int (xs (nI i + 2).toNatClampNeg)]) (rest := []) ⟨hx, hb, hml, hown, hts⟩ (k_X11_leads l D cA adr1 hJ1 0 (xs (nI i + 1).toNatClampNeg) (xs (nI i + 2).toNatClampNeg) hT1 M1 r M1' hc1) (cwV 2 hts hL_X11_leads rfl rfl rfl (by decide +kernel) ⟨Nat.le_of_ble_eq_true rfl, Nat.le_of_ble_eq_true rfl⟩) ⟨smPc_bl, smRv hE hP1 hT1 rfl (ci := 11) (q := (RX11, TX11, 11)) rfl, smPc_in [.ref (adr1 0), .int (xs (nI i + 1).toNatClampNeg), .int (xs (nI i + 2).toNatClampNeg)] hE hP1⟩ rfl rfl hl.1 rfl (lv_room (Nat.le_of_ble_eq_true rfl)) dL_law_1102 ⟨Nat.le_of_ble_eq_true rfl, Nat.le_of_ble_eq_true rfl⟩) hS hA1 hP2 hd1 (fun H locs hP1 hP2 hS => ?_)
  refine lv_aload_n hx hb dL_law_1105 rfl (lv_at hl 2 rfl) ?_
  refine lv_aload_n hx hb dL_law_1106 rfl (lv_at hl 0 rfl) ?_
  refine lv_iload_n hx hb dL_law_1107 rfl (lv_at hl 3 rfl) ?_
  refine lv_iconst (v := 1) hx hb dL_law_1108 (by decide) ?_
  refine lv_iadd hx hb dL_law_1109 ?_
  refine va_sld hx hb hX hbl hbA hS h_1 dL_law_1110 ?_
  refine lv_aload_n hx hb dL_law_1111 rfl (lv_at hl 0 rfl) ?_
  refine lv_iload_n hx hb dL_law_1112 rfl (lv_at hl 3 rfl) ?_
  refine lv_iconst (v := 2) hx hb dL_law_1113 (by decide) ?_
  refine lv_iadd hx hb dL_law_1114 ?_
  refine va_sld hx hb hX hbl hbA hS h_2 dL_law_1115 ?_
  refine lw_ci (va_runV (As := [.int (xs (nI i + 1).toNatClampNeg), .int (xs (nI i + 2).toNatClampNeg)]) (rest := [.int r]) ⟨hx, hb, hml, hown, hts⟩ (k_X12_leads l D cA adr2 hJ2 1000 (xs (nI i + 1).toNatClampNeg) (xs (nI i + 2).toNatClampNeg) hT2 M2 r M2' hc2) (cwV 2 hts hL_X12_leads rfl rfl rfl (by decide +kernel) ⟨Nat.le_of_ble_eq_true rfl, Nat.le_of_ble_eq_true rfl⟩) ⟨smPc_bl, smRv hE hP2 hT2 rfl (ci := 12) (q := (RX12, TX12, 54)) rfl, smPc_in [.ref (adr2 1000), .int (xs (nI i + 1).toNatClampNeg), .int (xs (nI i + 2).toNatClampNeg)] hE hP2⟩ rfl rfl hl.1 rfl (lv_room (Nat.le_of_ble_eq_true rfl)) dL_law_1116 ⟨Nat.le_of_ble_eq_true rfl, Nat.le_of_ble_eq_true rfl⟩) hS hA2 hP1 hd2 (fun H locs hP2 hP1 hS => ?_)
  refine lv_icmp_eq (tgt := 1282) hx hb dL_law_1119 (by decide) (fun _ => ?_) (fun c => absurd rfl c)
  exact kk _ _ hR _ _ hP1 hP2 hS _ hl
set_option maxHeartbeats 4000000 in
set_option maxRecDepth 100000 in
theorem lw_op_reduce {p : Program} {l : Launch} {e : Env} {s : State} {m : MethodId} {below : List Frame} {meth : Method} {c : Code} {D : va_G} {cA : Nat → ClassId} {adr1 adr2 : Nat → Nat} {Rel : smM → smM → Prop} (hop : Op_reduce Rel) {b L : Nat} {xs : Nat → Int32} (hL : L ≤ 2560) (C0 : lw_At p s m meth c b L xs) (hE : smEnv D cA s) (hJ1 : smJ 1 adr1) (hJ2 : smJ 2 adr2) (hA1 : ∀ q, smA 1 adr1 q → s.heap.size ≤ q) (hA2 : ∀ q, smA 2 adr2 q → s.heap.size ≤ q) (hd1 : ∀ q, smA 2 adr2 q → ¬ smA 1 adr1 q) (hd2 : ∀ q, smA 1 adr1 q → ¬ smA 2 adr2 q) {i : Nat} (hi : i + 5 ≤ L) (kk : ∀ M1 M2, Rel M1 M2 → ∀ H locs, smP D cA 1 adr1 M1 H → smP D cA 2 adr2 M2 H → va_S (fun q : Nat => s.heap.size ≤ q) s.heap H locs → ∀ ls, lv_has ls 4 [(0, .ref b), (1, .ref (adr1 0)), (2, .ref (adr2 1000)), (3, .int (nI i))] → W p l e room_1 s m #[Value.ref b] below meth c H locs 548 6688 (lw_Z below #[Value.ref b] s) (F0 m 1282 ls [])) {M1 M2 : smM} (hR : Rel M1 M2) {H : Heap} {locs : List Loc} (hP1 : smP D cA 1 adr1 M1 H) (hP2 : smP D cA 2 adr2 M2 H) (hS : va_S (fun q : Nat => s.heap.size ≤ q) s.heap H locs) {ls : Array Slot} (hl : lv_has ls 4 [(0, .ref b), (1, .ref (adr1 0)), (2, .ref (adr2 1000)), (3, .int (nI i))]) : W p l e room_1 s m #[Value.ref b] below meth c H locs 548 6688 (lw_Z below #[Value.ref b] s) (F0 m 1124 ls []) := by
  obtain ⟨hx, hb, hr, hml, hown, hts, hX, hbl, hlocks, hgv⟩ := C0
  have hown : s.vm.findClass RL = some m.cls := hown
  have hbA : ¬ (fun q : Nat => s.heap.size ≤ q) b := Nat.not_le.mpr hbl
  have hT1 : smT 1 0 11 := ⟨Nat.le_refl _, by decide, by decide +kernel⟩
  have hT2 : smT 2 1000 12 := ⟨Nat.le_refl _, by decide, by decide +kernel⟩
  have h_1 : vp_in (nI i + 1) L := lw_idx hi hL (by decide : 1 < 5) (lw_nIa i 1)
  have h_2 : vp_in (nI i + 2) L := lw_idx hi hL (by decide : 2 < 5) (lw_nIa i 2)
  obtain ⟨r, M1', M2', hc1, hc2, hR⟩ := hop M1 M2 hR (xs (nI i + 1).toNatClampNeg) (xs (nI i + 2).toNatClampNeg)
  refine lv_aload_n hx hb dL_law_1124 rfl (lv_at hl 1 rfl) ?_
  refine lv_aload_n hx hb dL_law_1125 rfl (lv_at hl 0 rfl) ?_
  refine lv_iload_n hx hb dL_law_1126 rfl (lv_at hl 3 rfl) ?_
  refine lv_iconst (v := 1) hx hb dL_law_1127 (by decide) ?_
  refine lv_iadd hx hb dL_law_1128 ?_
  refine va_sld hx hb hX hbl hbA hS h_1 dL_law_1129 ?_
  refine lv_aload_n hx hb dL_law_1130 rfl (lv_at hl 0 rfl) ?_
  refine lv_iload_n hx hb dL_law_1131 rfl (lv_at hl 3 rfl) ?_
  refine lv_iconst (v := 2) hx hb dL_law_1132 (by decide) ?_
  refine lv_iadd hx hb dL_law_1133 ?_
  refine va_sld hx hb hX hbl hbA hS h_2 dL_law_1134 ?_
  refine lw_ci (va_runV (As := [.int (xs (nI i + 1).toNatClampNeg), .int (xs (nI i + 2).toNatClampNeg)]) (rest := []) ⟨hx, hb, hml, hown, hts⟩ (k_X11_reduce l D cA adr1 hJ1 0 (xs (nI i + 1).toNatClampNeg) (xs (nI i + 2).toNatClampNeg) hT1 M1 r M1' hc1) (cwV 2 hts hL_X11_reduce rfl rfl rfl (by decide +kernel) ⟨Nat.le_of_ble_eq_true rfl, Nat.le_of_ble_eq_true rfl⟩) ⟨smPc_bl, smRv hE hP1 hT1 rfl (ci := 11) (q := (RX11, TX11, 11)) rfl, smPc_in [.ref (adr1 0), .int (xs (nI i + 1).toNatClampNeg), .int (xs (nI i + 2).toNatClampNeg)] hE hP1⟩ rfl rfl hl.1 rfl (lv_room (Nat.le_of_ble_eq_true rfl)) dL_law_1135 ⟨Nat.le_of_ble_eq_true rfl, Nat.le_of_ble_eq_true rfl⟩) hS hA1 hP2 hd1 (fun H locs hP1 hP2 hS => ?_)
  refine lv_aload_n hx hb dL_law_1138 rfl (lv_at hl 2 rfl) ?_
  refine lv_aload_n hx hb dL_law_1139 rfl (lv_at hl 0 rfl) ?_
  refine lv_iload_n hx hb dL_law_1140 rfl (lv_at hl 3 rfl) ?_
  refine lv_iconst (v := 1) hx hb dL_law_1141 (by decide) ?_
  refine lv_iadd hx hb dL_law_1142 ?_
  refine va_sld hx hb hX hbl hbA hS h_1 dL_law_1143 ?_
  refine lv_aload_n hx hb dL_law_1144 rfl (lv_at hl 0 rfl) ?_
  refine lv_iload_n hx hb dL_law_1145 rfl (lv_at hl 3 rfl) ?_
  refine lv_iconst (v := 2) hx hb dL_law_1146 (by decide) ?_
  refine lv_iadd hx hb dL_law_1147 ?_
  refine va_sld hx hb hX hbl hbA hS h_2 dL_law_1148 ?_
  refine lw_ci (va_runV (As := [.int (xs (nI i + 1).toNatClampNeg), .int (xs (nI i + 2).toNatClampNeg)]) (rest := [.int r]) ⟨hx, hb, hml, hown, hts⟩ (k_X12_reduce l D cA adr2 hJ2 1000 (xs (nI i + 1).toNatClampNeg) (xs (nI i + 2).toNatClampNeg) hT2 M2 r M2' hc2) (cwV 2 hts hL_X12_reduce rfl rfl rfl (by decide +kernel) ⟨Nat.le_of_ble_eq_true rfl, Nat.le_of_ble_eq_true rfl⟩) ⟨smPc_bl, smRv hE hP2 hT2 rfl (ci := 12) (q := (RX12, TX12, 54)) rfl, smPc_in [.ref (adr2 1000), .int (xs (nI i + 1).toNatClampNeg), .int (xs (nI i + 2).toNatClampNeg)] hE hP2⟩ rfl rfl hl.1 rfl (lv_room (Nat.le_of_ble_eq_true rfl)) dL_law_1149 ⟨Nat.le_of_ble_eq_true rfl, Nat.le_of_ble_eq_true rfl⟩) hS hA2 hP1 hd2 (fun H locs hP2 hP1 hS => ?_)
  refine lv_icmp_eq (tgt := 1282) hx hb dL_law_1152 (by decide) (fun _ => ?_) (fun c => absurd rfl c)
  exact kk _ _ hR _ _ hP1 hP2 hS _ hl
set_option maxHeartbeats 4000000 in
set_option maxRecDepth 100000 in
theorem lw_op_belongs {p : Program} {l : Launch} {e : Env} {s : State} {m : MethodId} {below : List Frame} {meth : Method} {c : Code} {D : va_G} {cA : Nat → ClassId} {adr1 adr2 : Nat → Nat} {Rel : smM → smM → Prop} (hop : Op_belongs Rel) {b L : Nat} {xs : Nat → Int32} (hL : L ≤ 2560) (C0 : lw_At p s m meth c b L xs) (hE : smEnv D cA s) (hJ1 : smJ 1 adr1) (hJ2 : smJ 2 adr2) (hA1 : ∀ q, smA 1 adr1 q → s.heap.size ≤ q) (hA2 : ∀ q, smA 2 adr2 q → s.heap.size ≤ q) (hd1 : ∀ q, smA 2 adr2 q → ¬ smA 1 adr1 q) (hd2 : ∀ q, smA 1 adr1 q → ¬ smA 2 adr2 q) {i : Nat} (hi : i + 5 ≤ L) (kk : ∀ M1 M2, Rel M1 M2 → ∀ H locs, smP D cA 1 adr1 M1 H → smP D cA 2 adr2 M2 H → va_S (fun q : Nat => s.heap.size ≤ q) s.heap H locs → ∀ ls, lv_has ls 4 [(0, .ref b), (1, .ref (adr1 0)), (2, .ref (adr2 1000)), (3, .int (nI i))] → W p l e room_1 s m #[Value.ref b] below meth c H locs 548 6688 (lw_Z below #[Value.ref b] s) (F0 m 1282 ls [])) {M1 M2 : smM} (hR : Rel M1 M2) {H : Heap} {locs : List Loc} (hP1 : smP D cA 1 adr1 M1 H) (hP2 : smP D cA 2 adr2 M2 H) (hS : va_S (fun q : Nat => s.heap.size ≤ q) s.heap H locs) {ls : Array Slot} (hl : lv_has ls 4 [(0, .ref b), (1, .ref (adr1 0)), (2, .ref (adr2 1000)), (3, .int (nI i))]) : W p l e room_1 s m #[Value.ref b] below meth c H locs 548 6688 (lw_Z below #[Value.ref b] s) (F0 m 1157 ls []) := by
  obtain ⟨hx, hb, hr, hml, hown, hts, hX, hbl, hlocks, hgv⟩ := C0
  have hown : s.vm.findClass RL = some m.cls := hown
  have hbA : ¬ (fun q : Nat => s.heap.size ≤ q) b := Nat.not_le.mpr hbl
  have hT1 : smT 1 0 11 := ⟨Nat.le_refl _, by decide, by decide +kernel⟩
  have hT2 : smT 2 1000 12 := ⟨Nat.le_refl _, by decide, by decide +kernel⟩
  have h_1 : vp_in (nI i + 1) L := lw_idx hi hL (by decide : 1 < 5) (lw_nIa i 1)
  obtain ⟨r, M1', M2', hc1, hc2, hR⟩ := hop M1 M2 hR (xs (nI i + 1).toNatClampNeg)
  refine lv_aload_n hx hb dL_law_1157 rfl (lv_at hl 1 rfl) ?_
  refine lv_aload_n hx hb dL_law_1158 rfl (lv_at hl 0 rfl) ?_
  refine lv_iload_n hx hb dL_law_1159 rfl (lv_at hl 3 rfl) ?_
  refine lv_iconst (v := 1) hx hb dL_law_1160 (by decide) ?_
  refine lv_iadd hx hb dL_law_1161 ?_
  refine va_sld hx hb hX hbl hbA hS h_1 dL_law_1162 ?_
  refine lw_ci (va_runV (As := [.int (xs (nI i + 1).toNatClampNeg)]) (rest := []) ⟨hx, hb, hml, hown, hts⟩ (k_X11_belongs l D cA adr1 hJ1 0 (xs (nI i + 1).toNatClampNeg) hT1 M1 r M1' hc1) (cwV 1 hts hL_X11_belongs rfl rfl rfl (by decide +kernel) ⟨Nat.le_of_ble_eq_true rfl, Nat.le_of_ble_eq_true rfl⟩) ⟨smPc_bl, smRv hE hP1 hT1 rfl (ci := 11) (q := (RX11, TX11, 11)) rfl, smPc_in [.ref (adr1 0), .int (xs (nI i + 1).toNatClampNeg)] hE hP1⟩ rfl rfl hl.1 rfl (lv_room (Nat.le_of_ble_eq_true rfl)) dL_law_1163 ⟨Nat.le_of_ble_eq_true rfl, Nat.le_of_ble_eq_true rfl⟩) hS hA1 hP2 hd1 (fun H locs hP1 hP2 hS => ?_)
  refine lv_aload_n hx hb dL_law_1166 rfl (lv_at hl 2 rfl) ?_
  refine lv_aload_n hx hb dL_law_1167 rfl (lv_at hl 0 rfl) ?_
  refine lv_iload_n hx hb dL_law_1168 rfl (lv_at hl 3 rfl) ?_
  refine lv_iconst (v := 1) hx hb dL_law_1169 (by decide) ?_
  refine lv_iadd hx hb dL_law_1170 ?_
  refine va_sld hx hb hX hbl hbA hS h_1 dL_law_1171 ?_
  refine lw_ci (va_runV (As := [.int (xs (nI i + 1).toNatClampNeg)]) (rest := [.int r]) ⟨hx, hb, hml, hown, hts⟩ (k_X12_belongs l D cA adr2 hJ2 1000 (xs (nI i + 1).toNatClampNeg) hT2 M2 r M2' hc2) (cwV 1 hts hL_X12_belongs rfl rfl rfl (by decide +kernel) ⟨Nat.le_of_ble_eq_true rfl, Nat.le_of_ble_eq_true rfl⟩) ⟨smPc_bl, smRv hE hP2 hT2 rfl (ci := 12) (q := (RX12, TX12, 54)) rfl, smPc_in [.ref (adr2 1000), .int (xs (nI i + 1).toNatClampNeg)] hE hP2⟩ rfl rfl hl.1 rfl (lv_room (Nat.le_of_ble_eq_true rfl)) dL_law_1172 ⟨Nat.le_of_ble_eq_true rfl, Nat.le_of_ble_eq_true rfl⟩) hS hA2 hP1 hd2 (fun H locs hP2 hP1 hS => ?_)
  refine lv_icmp_eq (tgt := 1282) hx hb dL_law_1175 (by decide) (fun _ => ?_) (fun c => absurd rfl c)
  exact kk _ _ hR _ _ hP1 hP2 hS _ hl
set_option maxHeartbeats 4000000 in
set_option maxRecDepth 100000 in
theorem lw_op_stands {p : Program} {l : Launch} {e : Env} {s : State} {m : MethodId} {below : List Frame} {meth : Method} {c : Code} {D : va_G} {cA : Nat → ClassId} {adr1 adr2 : Nat → Nat} {Rel : smM → smM → Prop} (hop : Op_stands Rel) {b L : Nat} {xs : Nat → Int32} (hL : L ≤ 2560) (C0 : lw_At p s m meth c b L xs) (hE : smEnv D cA s) (hJ1 : smJ 1 adr1) (hJ2 : smJ 2 adr2) (hA1 : ∀ q, smA 1 adr1 q → s.heap.size ≤ q) (hA2 : ∀ q, smA 2 adr2 q → s.heap.size ≤ q) (hd1 : ∀ q, smA 2 adr2 q → ¬ smA 1 adr1 q) (hd2 : ∀ q, smA 1 adr1 q → ¬ smA 2 adr2 q) {i : Nat} (hi : i + 5 ≤ L) (kk : ∀ M1 M2, Rel M1 M2 → ∀ H locs, smP D cA 1 adr1 M1 H → smP D cA 2 adr2 M2 H → va_S (fun q : Nat => s.heap.size ≤ q) s.heap H locs → ∀ ls, lv_has ls 4 [(0, .ref b), (1, .ref (adr1 0)), (2, .ref (adr2 1000)), (3, .int (nI i))] → W p l e room_1 s m #[Value.ref b] below meth c H locs 548 6688 (lw_Z below #[Value.ref b] s) (F0 m 1282 ls [])) {M1 M2 : smM} (hR : Rel M1 M2) {H : Heap} {locs : List Loc} (hP1 : smP D cA 1 adr1 M1 H) (hP2 : smP D cA 2 adr2 M2 H) (hS : va_S (fun q : Nat => s.heap.size ≤ q) s.heap H locs) {ls : Array Slot} (hl : lv_has ls 4 [(0, .ref b), (1, .ref (adr1 0)), (2, .ref (adr2 1000)), (3, .int (nI i))]) : W p l e room_1 s m #[Value.ref b] below meth c H locs 548 6688 (lw_Z below #[Value.ref b] s) (F0 m 1180 ls []) := by
  obtain ⟨hx, hb, hr, hml, hown, hts, hX, hbl, hlocks, hgv⟩ := C0
  have hown : s.vm.findClass RL = some m.cls := hown
  have hbA : ¬ (fun q : Nat => s.heap.size ≤ q) b := Nat.not_le.mpr hbl
  have hT1 : smT 1 0 11 := ⟨Nat.le_refl _, by decide, by decide +kernel⟩
  have hT2 : smT 2 1000 12 := ⟨Nat.le_refl _, by decide, by decide +kernel⟩
  have h_1 : vp_in (nI i + 1) L := lw_idx hi hL (by decide : 1 < 5) (lw_nIa i 1)
  obtain ⟨r, M1', M2', hc1, hc2, hR⟩ := hop M1 M2 hR (xs (nI i + 1).toNatClampNeg)
  refine lv_aload_n hx hb dL_law_1180 rfl (lv_at hl 1 rfl) ?_
  refine lv_aload_n hx hb dL_law_1181 rfl (lv_at hl 0 rfl) ?_
  refine lv_iload_n hx hb dL_law_1182 rfl (lv_at hl 3 rfl) ?_
  refine lv_iconst (v := 1) hx hb dL_law_1183 (by decide) ?_
  refine lv_iadd hx hb dL_law_1184 ?_
  refine va_sld hx hb hX hbl hbA hS h_1 dL_law_1185 ?_
  refine lw_ci (va_runV (As := [.int (xs (nI i + 1).toNatClampNeg)]) (rest := []) ⟨hx, hb, hml, hown, hts⟩ (k_X11_stands l D cA adr1 hJ1 0 (xs (nI i + 1).toNatClampNeg) hT1 M1 r M1' hc1) (cwV 1 hts hL_X11_stands rfl rfl rfl (by decide +kernel) ⟨Nat.le_of_ble_eq_true rfl, Nat.le_of_ble_eq_true rfl⟩) ⟨smPc_bl, smRv hE hP1 hT1 rfl (ci := 11) (q := (RX11, TX11, 11)) rfl, smPc_in [.ref (adr1 0), .int (xs (nI i + 1).toNatClampNeg)] hE hP1⟩ rfl rfl hl.1 rfl (lv_room (Nat.le_of_ble_eq_true rfl)) dL_law_1186 ⟨Nat.le_of_ble_eq_true rfl, Nat.le_of_ble_eq_true rfl⟩) hS hA1 hP2 hd1 (fun H locs hP1 hP2 hS => ?_)
  refine lv_aload_n hx hb dL_law_1189 rfl (lv_at hl 2 rfl) ?_
  refine lv_aload_n hx hb dL_law_1190 rfl (lv_at hl 0 rfl) ?_
  refine lv_iload_n hx hb dL_law_1191 rfl (lv_at hl 3 rfl) ?_
  refine lv_iconst (v := 1) hx hb dL_law_1192 (by decide) ?_
  refine lv_iadd hx hb dL_law_1193 ?_
  refine va_sld hx hb hX hbl hbA hS h_1 dL_law_1194 ?_
  refine lw_ci (va_runV (As := [.int (xs (nI i + 1).toNatClampNeg)]) (rest := [.int r]) ⟨hx, hb, hml, hown, hts⟩ (k_X12_stands l D cA adr2 hJ2 1000 (xs (nI i + 1).toNatClampNeg) hT2 M2 r M2' hc2) (cwV 1 hts hL_X12_stands rfl rfl rfl (by decide +kernel) ⟨Nat.le_of_ble_eq_true rfl, Nat.le_of_ble_eq_true rfl⟩) ⟨smPc_bl, smRv hE hP2 hT2 rfl (ci := 12) (q := (RX12, TX12, 54)) rfl, smPc_in [.ref (adr2 1000), .int (xs (nI i + 1).toNatClampNeg)] hE hP2⟩ rfl rfl hl.1 rfl (lv_room (Nat.le_of_ble_eq_true rfl)) dL_law_1195 ⟨Nat.le_of_ble_eq_true rfl, Nat.le_of_ble_eq_true rfl⟩) hS hA2 hP1 hd2 (fun H locs hP2 hP1 hS => ?_)
  refine lv_icmp_eq (tgt := 1282) hx hb dL_law_1198 (by decide) (fun _ => ?_) (fun c => absurd rfl c)
  exact kk _ _ hR _ _ hP1 hP2 hS _ hl
set_option maxHeartbeats 4000000 in
set_option maxRecDepth 100000 in
theorem lw_op_kept {p : Program} {l : Launch} {e : Env} {s : State} {m : MethodId} {below : List Frame} {meth : Method} {c : Code} {D : va_G} {cA : Nat → ClassId} {adr1 adr2 : Nat → Nat} {Rel : smM → smM → Prop} (hop : Op_kept Rel) {b L : Nat} {xs : Nat → Int32} (hL : L ≤ 2560) (C0 : lw_At p s m meth c b L xs) (hE : smEnv D cA s) (hJ1 : smJ 1 adr1) (hJ2 : smJ 2 adr2) (hA1 : ∀ q, smA 1 adr1 q → s.heap.size ≤ q) (hA2 : ∀ q, smA 2 adr2 q → s.heap.size ≤ q) (hd1 : ∀ q, smA 2 adr2 q → ¬ smA 1 adr1 q) (hd2 : ∀ q, smA 1 adr1 q → ¬ smA 2 adr2 q) {i : Nat} (hi : i + 5 ≤ L) (kk : ∀ M1 M2, Rel M1 M2 → ∀ H locs, smP D cA 1 adr1 M1 H → smP D cA 2 adr2 M2 H → va_S (fun q : Nat => s.heap.size ≤ q) s.heap H locs → ∀ ls, lv_has ls 4 [(0, .ref b), (1, .ref (adr1 0)), (2, .ref (adr2 1000)), (3, .int (nI i))] → W p l e room_1 s m #[Value.ref b] below meth c H locs 548 6688 (lw_Z below #[Value.ref b] s) (F0 m 1282 ls [])) {M1 M2 : smM} (hR : Rel M1 M2) {H : Heap} {locs : List Loc} (hP1 : smP D cA 1 adr1 M1 H) (hP2 : smP D cA 2 adr2 M2 H) (hS : va_S (fun q : Nat => s.heap.size ≤ q) s.heap H locs) {ls : Array Slot} (hl : lv_has ls 4 [(0, .ref b), (1, .ref (adr1 0)), (2, .ref (adr2 1000)), (3, .int (nI i))]) : W p l e room_1 s m #[Value.ref b] below meth c H locs 548 6688 (lw_Z below #[Value.ref b] s) (F0 m 1203 ls []) := by
  obtain ⟨hx, hb, hr, hml, hown, hts, hX, hbl, hlocks, hgv⟩ := C0
  have hown : s.vm.findClass RL = some m.cls := hown
  have hbA : ¬ (fun q : Nat => s.heap.size ≤ q) b := Nat.not_le.mpr hbl
  have hT1 : smT 1 0 11 := ⟨Nat.le_refl _, by decide, by decide +kernel⟩
  have hT2 : smT 2 1000 12 := ⟨Nat.le_refl _, by decide, by decide +kernel⟩
  have h_1 : vp_in (nI i + 1) L := lw_idx hi hL (by decide : 1 < 5) (lw_nIa i 1)
  have h_2 : vp_in (nI i + 2) L := lw_idx hi hL (by decide : 2 < 5) (lw_nIa i 2)
  obtain ⟨r, hc1, hc2, hR⟩ := hop M1 M2 hR (xs (nI i + 1).toNatClampNeg) (xs (nI i + 2).toNatClampNeg)
  refine lv_aload_n hx hb dL_law_1203 rfl (lv_at hl 1 rfl) ?_
  refine lv_aload_n hx hb dL_law_1204 rfl (lv_at hl 0 rfl) ?_
  refine lv_iload_n hx hb dL_law_1205 rfl (lv_at hl 3 rfl) ?_
  refine lv_iconst (v := 1) hx hb dL_law_1206 (by decide) ?_
  refine lv_iadd hx hb dL_law_1207 ?_
  refine va_sld hx hb hX hbl hbA hS h_1 dL_law_1208 ?_
  refine lv_aload_n hx hb dL_law_1209 rfl (lv_at hl 0 rfl) ?_
  refine lv_iload_n hx hb dL_law_1210 rfl (lv_at hl 3 rfl) ?_
  refine lv_iconst (v := 2) hx hb dL_law_1211 (by decide) ?_
  refine lv_iadd hx hb dL_law_1212 ?_
  refine va_sld hx hb hX hbl hbA hS h_2 dL_law_1213 ?_
  refine lw_ci (va_runV (As := [.int (xs (nI i + 1).toNatClampNeg), .int (xs (nI i + 2).toNatClampNeg)]) (rest := []) ⟨hx, hb, hml, hown, hts⟩ (k_X11_kept l D cA adr1 hJ1 0 (xs (nI i + 1).toNatClampNeg) (xs (nI i + 2).toNatClampNeg) hT1 M1 r hc1) (cwV 2 hts hL_X11_kept rfl rfl rfl (by decide +kernel) ⟨Nat.le_of_ble_eq_true rfl, Nat.le_of_ble_eq_true rfl⟩) ⟨smPc_bl, smRv hE hP1 hT1 rfl (ci := 11) (q := (RX11, TX11, 11)) rfl, smPc_in [.ref (adr1 0), .int (xs (nI i + 1).toNatClampNeg), .int (xs (nI i + 2).toNatClampNeg)] hE hP1⟩ rfl rfl hl.1 rfl (lv_room (Nat.le_of_ble_eq_true rfl)) dL_law_1214 ⟨Nat.le_of_ble_eq_true rfl, Nat.le_of_ble_eq_true rfl⟩) hS hA1 hP2 hd1 (fun H locs hP1 hP2 hS => ?_)
  refine lv_aload_n hx hb dL_law_1217 rfl (lv_at hl 2 rfl) ?_
  refine lv_aload_n hx hb dL_law_1218 rfl (lv_at hl 0 rfl) ?_
  refine lv_iload_n hx hb dL_law_1219 rfl (lv_at hl 3 rfl) ?_
  refine lv_iconst (v := 1) hx hb dL_law_1220 (by decide) ?_
  refine lv_iadd hx hb dL_law_1221 ?_
  refine va_sld hx hb hX hbl hbA hS h_1 dL_law_1222 ?_
  refine lv_aload_n hx hb dL_law_1223 rfl (lv_at hl 0 rfl) ?_
  refine lv_iload_n hx hb dL_law_1224 rfl (lv_at hl 3 rfl) ?_
  refine lv_iconst (v := 2) hx hb dL_law_1225 (by decide) ?_
  refine lv_iadd hx hb dL_law_1226 ?_
  refine va_sld hx hb hX hbl hbA hS h_2 dL_law_1227 ?_
  refine lw_ci (va_runV (As := [.int (xs (nI i + 1).toNatClampNeg), .int (xs (nI i + 2).toNatClampNeg)]) (rest := [.int r]) ⟨hx, hb, hml, hown, hts⟩ (k_X12_kept l D cA adr2 hJ2 1000 (xs (nI i + 1).toNatClampNeg) (xs (nI i + 2).toNatClampNeg) hT2 M2 r hc2) (cwV 2 hts hL_X12_kept rfl rfl rfl (by decide +kernel) ⟨Nat.le_of_ble_eq_true rfl, Nat.le_of_ble_eq_true rfl⟩) ⟨smPc_bl, smRv hE hP2 hT2 rfl (ci := 12) (q := (RX12, TX12, 54)) rfl, smPc_in [.ref (adr2 1000), .int (xs (nI i + 1).toNatClampNeg), .int (xs (nI i + 2).toNatClampNeg)] hE hP2⟩ rfl rfl hl.1 rfl (lv_room (Nat.le_of_ble_eq_true rfl)) dL_law_1228 ⟨Nat.le_of_ble_eq_true rfl, Nat.le_of_ble_eq_true rfl⟩) hS hA2 hP1 hd2 (fun H locs hP2 hP1 hS => ?_)
  refine lv_icmp_eq (tgt := 1282) hx hb dL_law_1231 (by decide) (fun _ => ?_) (fun c => absurd rfl c)
  exact kk _ _ hR _ _ hP1 hP2 hS _ hl
set_option maxHeartbeats 4000000 in
set_option maxRecDepth 100000 in
theorem lw_op_image {p : Program} {l : Launch} {e : Env} {s : State} {m : MethodId} {below : List Frame} {meth : Method} {c : Code} {D : va_G} {cA : Nat → ClassId} {adr1 adr2 : Nat → Nat} {Rel : smM → smM → Prop} (hop : Op_image Rel) {b L : Nat} {xs : Nat → Int32} (hL : L ≤ 2560) (C0 : lw_At p s m meth c b L xs) (hE : smEnv D cA s) (hJ1 : smJ 1 adr1) (hJ2 : smJ 2 adr2) (hA1 : ∀ q, smA 1 adr1 q → s.heap.size ≤ q) (hA2 : ∀ q, smA 2 adr2 q → s.heap.size ≤ q) (hd1 : ∀ q, smA 2 adr2 q → ¬ smA 1 adr1 q) (hd2 : ∀ q, smA 1 adr1 q → ¬ smA 2 adr2 q) {i : Nat} (hi : i + 5 ≤ L) (kk : ∀ M1 M2, Rel M1 M2 → ∀ H locs, smP D cA 1 adr1 M1 H → smP D cA 2 adr2 M2 H → va_S (fun q : Nat => s.heap.size ≤ q) s.heap H locs → ∀ ls, lv_has ls 4 [(0, .ref b), (1, .ref (adr1 0)), (2, .ref (adr2 1000)), (3, .int (nI i))] → W p l e room_1 s m #[Value.ref b] below meth c H locs 548 6688 (lw_Z below #[Value.ref b] s) (F0 m 1282 ls [])) {M1 M2 : smM} (hR : Rel M1 M2) {H : Heap} {locs : List Loc} (hP1 : smP D cA 1 adr1 M1 H) (hP2 : smP D cA 2 adr2 M2 H) (hS : va_S (fun q : Nat => s.heap.size ≤ q) s.heap H locs) {ls : Array Slot} (hl : lv_has ls 4 [(0, .ref b), (1, .ref (adr1 0)), (2, .ref (adr2 1000)), (3, .int (nI i))]) : W p l e room_1 s m #[Value.ref b] below meth c H locs 548 6688 (lw_Z below #[Value.ref b] s) (F0 m 1236 ls []) := by
  obtain ⟨hx, hb, hr, hml, hown, hts, hX, hbl, hlocks, hgv⟩ := C0
  have hown : s.vm.findClass RL = some m.cls := hown
  have hbA : ¬ (fun q : Nat => s.heap.size ≤ q) b := Nat.not_le.mpr hbl
  have hT1 : smT 1 0 11 := ⟨Nat.le_refl _, by decide, by decide +kernel⟩
  have hT2 : smT 2 1000 12 := ⟨Nat.le_refl _, by decide, by decide +kernel⟩
  have h_1 : vp_in (nI i + 1) L := lw_idx hi hL (by decide : 1 < 5) (lw_nIa i 1)
  obtain ⟨r, M1', M2', hc1, hc2, hR⟩ := hop M1 M2 hR (xs (nI i + 1).toNatClampNeg)
  refine lv_aload_n hx hb dL_law_1236 rfl (lv_at hl 1 rfl) ?_
  refine lv_aload_n hx hb dL_law_1237 rfl (lv_at hl 0 rfl) ?_
  refine lv_iload_n hx hb dL_law_1238 rfl (lv_at hl 3 rfl) ?_
  refine lv_iconst (v := 1) hx hb dL_law_1239 (by decide) ?_
  refine lv_iadd hx hb dL_law_1240 ?_
  refine va_sld hx hb hX hbl hbA hS h_1 dL_law_1241 ?_
  refine lw_ci (va_runV (As := [.int (xs (nI i + 1).toNatClampNeg)]) (rest := []) ⟨hx, hb, hml, hown, hts⟩ (k_X11_image l D cA adr1 hJ1 0 (xs (nI i + 1).toNatClampNeg) hT1 M1 r M1' hc1) (cwV 1 hts hL_X11_image rfl rfl rfl (by decide +kernel) ⟨Nat.le_of_ble_eq_true rfl, Nat.le_of_ble_eq_true rfl⟩) ⟨smPc_bl, smRv hE hP1 hT1 rfl (ci := 11) (q := (RX11, TX11, 11)) rfl, smPc_in [.ref (adr1 0), .int (xs (nI i + 1).toNatClampNeg)] hE hP1⟩ rfl rfl hl.1 rfl (lv_room (Nat.le_of_ble_eq_true rfl)) dL_law_1242 ⟨Nat.le_of_ble_eq_true rfl, Nat.le_of_ble_eq_true rfl⟩) hS hA1 hP2 hd1 (fun H locs hP1 hP2 hS => ?_)
  refine lv_aload_n hx hb dL_law_1245 rfl (lv_at hl 2 rfl) ?_
  refine lv_aload_n hx hb dL_law_1246 rfl (lv_at hl 0 rfl) ?_
  refine lv_iload_n hx hb dL_law_1247 rfl (lv_at hl 3 rfl) ?_
  refine lv_iconst (v := 1) hx hb dL_law_1248 (by decide) ?_
  refine lv_iadd hx hb dL_law_1249 ?_
  refine va_sld hx hb hX hbl hbA hS h_1 dL_law_1250 ?_
  refine lw_ci (va_runV (As := [.int (xs (nI i + 1).toNatClampNeg)]) (rest := [.int r]) ⟨hx, hb, hml, hown, hts⟩ (k_X12_image l D cA adr2 hJ2 1000 (xs (nI i + 1).toNatClampNeg) hT2 M2 r M2' hc2) (cwV 1 hts hL_X12_image rfl rfl rfl (by decide +kernel) ⟨Nat.le_of_ble_eq_true rfl, Nat.le_of_ble_eq_true rfl⟩) ⟨smPc_bl, smRv hE hP2 hT2 rfl (ci := 12) (q := (RX12, TX12, 54)) rfl, smPc_in [.ref (adr2 1000), .int (xs (nI i + 1).toNatClampNeg)] hE hP2⟩ rfl rfl hl.1 rfl (lv_room (Nat.le_of_ble_eq_true rfl)) dL_law_1251 ⟨Nat.le_of_ble_eq_true rfl, Nat.le_of_ble_eq_true rfl⟩) hS hA2 hP1 hd2 (fun H locs hP2 hP1 hS => ?_)
  refine lv_icmp_eq (tgt := 1282) hx hb dL_law_1254 (by decide) (fun _ => ?_) (fun c => absurd rfl c)
  exact kk _ _ hR _ _ hP1 hP2 hS _ hl
set_option maxHeartbeats 4000000 in
set_option maxRecDepth 100000 in
theorem lw_op_goBack {p : Program} {l : Launch} {e : Env} {s : State} {m : MethodId} {below : List Frame} {meth : Method} {c : Code} {D : va_G} {cA : Nat → ClassId} {adr1 adr2 : Nat → Nat} {Rel : smM → smM → Prop} (hop : Op_goBack Rel) {b L : Nat} {xs : Nat → Int32} (hL : L ≤ 2560) (C0 : lw_At p s m meth c b L xs) (hE : smEnv D cA s) (hJ1 : smJ 1 adr1) (hJ2 : smJ 2 adr2) (hA1 : ∀ q, smA 1 adr1 q → s.heap.size ≤ q) (hA2 : ∀ q, smA 2 adr2 q → s.heap.size ≤ q) (hd1 : ∀ q, smA 2 adr2 q → ¬ smA 1 adr1 q) (hd2 : ∀ q, smA 1 adr1 q → ¬ smA 2 adr2 q) {i : Nat} (hi : i + 5 ≤ L) (kk : ∀ M1 M2, Rel M1 M2 → ∀ H locs, smP D cA 1 adr1 M1 H → smP D cA 2 adr2 M2 H → va_S (fun q : Nat => s.heap.size ≤ q) s.heap H locs → ∀ ls, lv_has ls 4 [(0, .ref b), (1, .ref (adr1 0)), (2, .ref (adr2 1000)), (3, .int (nI i))] → W p l e room_1 s m #[Value.ref b] below meth c H locs 548 6688 (lw_Z below #[Value.ref b] s) (F0 m 1282 ls [])) {M1 M2 : smM} (hR : Rel M1 M2) {H : Heap} {locs : List Loc} (hP1 : smP D cA 1 adr1 M1 H) (hP2 : smP D cA 2 adr2 M2 H) (hS : va_S (fun q : Nat => s.heap.size ≤ q) s.heap H locs) {ls : Array Slot} (hl : lv_has ls 4 [(0, .ref b), (1, .ref (adr1 0)), (2, .ref (adr2 1000)), (3, .int (nI i))]) : W p l e room_1 s m #[Value.ref b] below meth c H locs 548 6688 (lw_Z below #[Value.ref b] s) (F0 m 1259 ls []) := by
  obtain ⟨hx, hb, hr, hml, hown, hts, hX, hbl, hlocks, hgv⟩ := C0
  have hown : s.vm.findClass RL = some m.cls := hown
  have hbA : ¬ (fun q : Nat => s.heap.size ≤ q) b := Nat.not_le.mpr hbl
  have hT1 : smT 1 0 11 := ⟨Nat.le_refl _, by decide, by decide +kernel⟩
  have hT2 : smT 2 1000 12 := ⟨Nat.le_refl _, by decide, by decide +kernel⟩
  have h_1 : vp_in (nI i + 1) L := lw_idx hi hL (by decide : 1 < 5) (lw_nIa i 1)
  obtain ⟨r, M1', M2', hc1, hc2, hR⟩ := hop M1 M2 hR (xs (nI i + 1).toNatClampNeg)
  refine lv_aload_n hx hb dL_law_1259 rfl (lv_at hl 1 rfl) ?_
  refine lv_aload_n hx hb dL_law_1260 rfl (lv_at hl 0 rfl) ?_
  refine lv_iload_n hx hb dL_law_1261 rfl (lv_at hl 3 rfl) ?_
  refine lv_iconst (v := 1) hx hb dL_law_1262 (by decide) ?_
  refine lv_iadd hx hb dL_law_1263 ?_
  refine va_sld hx hb hX hbl hbA hS h_1 dL_law_1264 ?_
  refine lw_ci (va_runV (As := [.int (xs (nI i + 1).toNatClampNeg)]) (rest := []) ⟨hx, hb, hml, hown, hts⟩ (k_X11_goBack l D cA adr1 hJ1 0 (xs (nI i + 1).toNatClampNeg) hT1 M1 r M1' hc1) (cwV 1 hts hL_X11_goBack rfl rfl rfl (by decide +kernel) ⟨Nat.le_of_ble_eq_true rfl, Nat.le_of_ble_eq_true rfl⟩) ⟨smPc_bl, smRv hE hP1 hT1 rfl (ci := 11) (q := (RX11, TX11, 11)) rfl, smPc_in [.ref (adr1 0), .int (xs (nI i + 1).toNatClampNeg)] hE hP1⟩ rfl rfl hl.1 rfl (lv_room (Nat.le_of_ble_eq_true rfl)) dL_law_1265 ⟨Nat.le_of_ble_eq_true rfl, Nat.le_of_ble_eq_true rfl⟩) hS hA1 hP2 hd1 (fun H locs hP1 hP2 hS => ?_)
  refine lv_aload_n hx hb dL_law_1268 rfl (lv_at hl 2 rfl) ?_
  refine lv_aload_n hx hb dL_law_1269 rfl (lv_at hl 0 rfl) ?_
  refine lv_iload_n hx hb dL_law_1270 rfl (lv_at hl 3 rfl) ?_
  refine lv_iconst (v := 1) hx hb dL_law_1271 (by decide) ?_
  refine lv_iadd hx hb dL_law_1272 ?_
  refine va_sld hx hb hX hbl hbA hS h_1 dL_law_1273 ?_
  refine lw_ci (va_runV (As := [.int (xs (nI i + 1).toNatClampNeg)]) (rest := [.int r]) ⟨hx, hb, hml, hown, hts⟩ (k_X12_goBack l D cA adr2 hJ2 1000 (xs (nI i + 1).toNatClampNeg) hT2 M2 r M2' hc2) (cwV 1 hts hL_X12_goBack rfl rfl rfl (by decide +kernel) ⟨Nat.le_of_ble_eq_true rfl, Nat.le_of_ble_eq_true rfl⟩) ⟨smPc_bl, smRv hE hP2 hT2 rfl (ci := 12) (q := (RX12, TX12, 54)) rfl, smPc_in [.ref (adr2 1000), .int (xs (nI i + 1).toNatClampNeg)] hE hP2⟩ rfl rfl hl.1 rfl (lv_room (Nat.le_of_ble_eq_true rfl)) dL_law_1274 ⟨Nat.le_of_ble_eq_true rfl, Nat.le_of_ble_eq_true rfl⟩) hS hA2 hP1 hd2 (fun H locs hP2 hP1 hS => ?_)
  refine lv_icmp_eq (tgt := 1282) hx hb dL_law_1277 (by decide) (fun _ => ?_) (fun c => absurd rfl c)
  exact kk _ _ hR _ _ hP1 hP2 hS _ hl
