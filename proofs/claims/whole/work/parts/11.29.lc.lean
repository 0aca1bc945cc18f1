set_option maxHeartbeats 4000000 in
set_option maxRecDepth 100000 in
theorem law_loop {p : Program} {l : Launch} {e : Env} {s : State} {m : MethodId} {below : List Frame} {meth : Method} {c : Code} {D : va_G} {cA : Nat → ClassId} {adr1 adr2 : Nat → Nat} {Rel : smM → smM → Prop} (hOps : OpsOK Rel) {b L : Nat} {xs : Nat → Int32} (hL : L ≤ 2560) (C0 : lw_At p s m meth c b L xs) (hE : smEnv D cA s) (hJ1 : smJ 1 adr1) (hJ2 : smJ 2 adr2) (hA1 : ∀ q, smA 1 adr1 q → s.heap.size ≤ q) (hA2 : ∀ q, smA 2 adr2 q → s.heap.size ≤ q) (hd1 : ∀ q, smA 2 adr2 q → ¬ smA 1 adr1 q) (hd2 : ∀ q, smA 1 adr1 q → ¬ smA 2 adr2 q) : ∀ (n i : Nat), i ≤ L + 4 → L + 5 ≤ i + n → ∀ M1 M2, Rel M1 M2 → ∀ H locs, smP D cA 1 adr1 M1 H → smP D cA 2 adr2 M2 H → va_S (fun q : Nat => s.heap.size ≤ q) s.heap H locs → ∀ ls, lv_has ls 4 [(0, .ref b), (1, .ref (adr1 0)), (2, .ref (adr2 1000)), (3, .int (nI i))] → W p l e room_1 s m #[Value.ref b] below meth c H locs 548 6688 (lw_Z below #[Value.ref b] s) (F0 m 18 ls []) := by
  have C1 := C0
  obtain ⟨hx, hb, hr, hml, hown, hts, hX, hbl, hlocks, hgv⟩ := C0
  have hown : s.vm.findClass RL = some m.cls := hown
  have hbA : ¬ (fun q : Nat => s.heap.size ≤ q) b := Nat.not_le.mpr hbl
  have hT1 : smT 1 0 11 := ⟨Nat.le_refl _, by decide, by decide +kernel⟩
  have hT2 : smT 2 1000 12 := ⟨Nat.le_refl _, by decide, by decide +kernel⟩
  intro n
  induction n with
  | zero => intro i h1 h2; exact absurd h2 (by omega)
  | succ n ih =>
    intro i h1 h2 M1 M2 hR H locs hP1 hP2 hS ls hl
    refine lv_iload_n hx hb dL_law_18 rfl (lv_at hl 3 rfl) ?_
    refine lv_aload_n hx hb dL_law_19 rfl (lv_at hl 0 rfl) ?_
    refine va_slen hx hb hX hbl hbA hS dL_law_20 ?_
    refine lv_iconst (v := 5) hx hb dL_law_21 (by decide) ?_
    refine lv_isub hx hb dL_law_22 ?_
    refine lv_icmp_gt (tgt := 1288) hx hb dL_law_23 (by decide) (fun _ => ?_) (fun c1 => ?_)
    · refine lv_iconst (v := 1) hx hb dL_law_1288 (by decide) ?_
      refine va_forget (fun q hq => hS.2.2 q hq) ?_
      refine W.widen (k := 600000) (n := 7302249) (Nat.le_of_ble_eq_true rfl) (Nat.le_of_ble_eq_true rfl) ?_
      exact lw_ret hx hb hr hlocks dL_law_1289
    have hi : i + 5 ≤ L := lw_ix hL c1 h1
    have kk : ∀ M1 M2, Rel M1 M2 → ∀ H locs, smP D cA 1 adr1 M1 H → smP D cA 2 adr2 M2 H → va_S (fun q : Nat => s.heap.size ≤ q) s.heap H locs → ∀ ls, lv_has ls 4 [(0, .ref b), (1, .ref (adr1 0)), (2, .ref (adr2 1000)), (3, .int (nI i))] → W p l e room_1 s m #[Value.ref b] below meth c H locs 548 6688 (lw_Z below #[Value.ref b] s) (F0 m 1282 ls []) := by
      intro M1 M2 hR H locs hP1 hP2 hS ls hl
      refine lv_iinc (v := nI (i + 5)) (lv' := [(3, .int (nI (i + 5))), (0, .ref b), (1, .ref (adr1 0)), (2, .ref (adr2 1000))]) hx hb dL_law_1282 hl (k := 3) rfl (nI_add i 5) (by decide) rfl (fun ls hl => ?_)
      refine lv_goto (tgt := 18) hx hb dL_law_1285 (by decide) ?_
      exact ih (i + 5) (by omega) (by omega) M1 M2 hR H locs hP1 hP2 hS ls (lv_sub hl [1, 2, 3, 0] rfl)
    have h_0 : vp_in (nI i) L := lw_idx hi hL (by decide : 0 < 5) rfl
    refine lv_aload_n hx hb dL_law_26 rfl (lv_at hl 0 rfl) ?_
    refine lv_iload_n hx hb dL_law_27 rfl (lv_at hl 3 rfl) ?_
    refine va_sld hx hb hX hbl hbA hS h_0 dL_law_28 ?_
    refine lv_bipush (v := 31) hx hb dL_law_29 (by decide) ?_
    refine lv_iand hx hb dL_law_31 ?_
    obtain ⟨j, hj, ej⟩ := pk_andE (xs (nI i).toNatClampNeg) (m := 31) 5 (by decide)
    rw [ej]
    obtain ⟨o0, o1, o2, o3, o4, o5, o6, o7, o8, o9, o10, o11, o12, o13, o14, o15, o16, o17, o18, o19, o20, o21, o22, o23, o24, o25, o26, o27, o28, o29, o30, o31⟩ := hOps
    by_cases c0 : j = 0
    · subst c0
      refine lv_tableIn (tgt := 176) hx hb dL_law_32 (by decide) (by decide) rfl (by decide) ?_
      exact lw_op_field o0 hL C1 hE hJ1 hJ2 hA1 hA2 hd1 hd2 hi kk hR hP1 hP2 hS hl
    by_cases c1 : j = 1
    · subst c1
      refine lv_tableIn (tgt := 199) hx hb dL_law_32 (by decide) (by decide) rfl (by decide) ?_
      exact lw_op_system o1 hL C1 hE hJ1 hJ2 hA1 hA2 hd1 hd2 hi kk hR hP1 hP2 hS hl
    by_cases c2 : j = 2
    · subst c2
      refine lv_tableIn (tgt := 232) hx hb dL_law_32 (by decide) (by decide) rfl (by decide) ?_
      exact lw_op_put o2 hL C1 hE hJ1 hJ2 hA1 hA2 hd1 hd2 hi kk hR hP1 hP2 hS hl
    by_cases c3 : j = 3
    · subst c3
      refine lv_tableIn (tgt := 285) hx hb dL_law_32 (by decide) (by decide) rfl (by decide) ?_
      exact lw_op_get o3 hL C1 hE hJ1 hJ2 hA1 hA2 hd1 hd2 hi kk hR hP1 hP2 hS hl
    by_cases c4 : j = 4
    · subst c4
      refine lv_tableIn (tgt := 328) hx hb dL_law_32 (by decide) (by decide) rfl (by decide) ?_
      exact lw_op_weights o4 hL C1 hE hJ1 hJ2 hA1 hA2 hd1 hd2 hi kk hR hP1 hP2 hS hl
    by_cases c5 : j = 5
    · subst c5
      refine lv_tableIn (tgt := 361) hx hb dL_law_32 (by decide) (by decide) rfl (by decide) ?_
      exact lw_op_drift o5 hL C1 hE hJ1 hJ2 hA1 hA2 hd1 hd2 hi kk hR hP1 hP2 hS hl
    by_cases c6 : j = 6
    · subst c6
      refine lv_tableIn (tgt := 384) hx hb dL_law_32 (by decide) (by decide) rfl (by decide) ?_
      exact lw_op_count o6 hL C1 hE hJ1 hJ2 hA1 hA2 hd1 hd2 hi kk hR hP1 hP2 hS hl
    by_cases c7 : j = 7
    · subst c7
      refine lv_tableIn (tgt := 407) hx hb dL_law_32 (by decide) (by decide) rfl (by decide) ?_
      exact lw_op_base o7 hL C1 hE hJ1 hJ2 hA1 hA2 hd1 hd2 hi kk hR hP1 hP2 hS hl
    by_cases c8 : j = 8
    · subst c8
      refine lv_tableIn (tgt := 440) hx hb dL_law_32 (by decide) (by decide) rfl (by decide) ?_
      exact lw_op_member o8 hL C1 hE hJ1 hJ2 hA1 hA2 hd1 hd2 hi kk hR hP1 hP2 hS hl
    by_cases c9 : j = 9
    · subst c9
      refine lv_tableIn (tgt := 483) hx hb dL_law_32 (by decide) (by decide) rfl (by decide) ?_
      exact lw_op_tail o9 hL C1 hE hJ1 hJ2 hA1 hA2 hd1 hd2 hi kk hR hP1 hP2 hS hl
    by_cases c10 : j = 10
    · subst c10
      refine lv_tableIn (tgt := 526) hx hb dL_law_32 (by decide) (by decide) rfl (by decide) ?_
      exact lw_op_stair o10 hL C1 hE hJ1 hJ2 hA1 hA2 hd1 hd2 hi kk hR hP1 hP2 hS hl
    by_cases c11 : j = 11
    · subst c11
      refine lv_tableIn (tgt := 569) hx hb dL_law_32 (by decide) (by decide) rfl (by decide) ?_
      exact lw_op_normal o11 hL C1 hE hJ1 hJ2 hA1 hA2 hd1 hd2 hi kk hR hP1 hP2 hS hl
    by_cases c12 : j = 12
    · subst c12
      refine lv_tableIn (tgt := 622) hx hb dL_law_32 (by decide) (by decide) rfl (by decide) ?_
      exact lw_op_table o12 hL C1 hE hJ1 hJ2 hA1 hA2 hd1 hd2 hi kk hR hP1 hP2 hS hl
    by_cases c13 : j = 13
    · subst c13
      refine lv_tableIn (tgt := 675) hx hb dL_law_32 (by decide) (by decide) rfl (by decide) ?_
      exact lw_op_place o13 hL C1 hE hJ1 hJ2 hA1 hA2 hd1 hd2 hi kk hR hP1 hP2 hS hl
    by_cases c14 : j = 14
    · subst c14
      refine lv_tableIn (tgt := 718) hx hb dL_law_32 (by decide) (by decide) rfl (by decide) ?_
      exact lw_op_least o14 hL C1 hE hJ1 hJ2 hA1 hA2 hd1 hd2 hi kk hR hP1 hP2 hS hl
    by_cases c15 : j = 15
    · subst c15
      refine lv_tableIn (tgt := 751) hx hb dL_law_32 (by decide) (by decide) rfl (by decide) ?_
      exact lw_op_root o15 hL C1 hE hJ1 hJ2 hA1 hA2 hd1 hd2 hi kk hR hP1 hP2 hS hl
    by_cases c16 : j = 16
    · subst c16
      refine lv_tableIn (tgt := 784) hx hb dL_law_32 (by decide) (by decide) rfl (by decide) ?_
      exact lw_op_poly o16 hL C1 hE hJ1 hJ2 hA1 hA2 hd1 hd2 hi kk hR hP1 hP2 hS hl
    by_cases c17 : j = 17
    · subst c17
      refine lv_tableIn (tgt := 807) hx hb dL_law_32 (by decide) (by decide) rfl (by decide) ?_
      exact lw_op_keepBase o17 hL C1 hE hJ1 hJ2 hA1 hA2 hd1 hd2 hi kk hR hP1 hP2 hS hl
    by_cases c18 : j = 18
    · subst c18
      refine lv_tableIn (tgt := 840) hx hb dL_law_32 (by decide) (by decide) rfl (by decide) ?_
      exact lw_op_drop o18 hL C1 hE hJ1 hJ2 hA1 hA2 hd1 hd2 hi kk hR hP1 hP2 hS hl
    by_cases c19 : j = 19
    · subst c19
      refine lv_tableIn (tgt := 863) hx hb dL_law_32 (by decide) (by decide) rfl (by decide) ?_
      exact lw_op_add o19 hL C1 hE hJ1 hJ2 hA1 hA2 hd1 hd2 hi kk hR hP1 hP2 hS hl
    by_cases c20 : j = 20
    · subst c20
      refine lv_tableIn (tgt := 916) hx hb dL_law_32 (by decide) (by decide) rfl (by decide) ?_
      exact lw_op_term o20 hL C1 hE hJ1 hJ2 hA1 hA2 hd1 hd2 hi kk hR hP1 hP2 hS hl
    by_cases c21 : j = 21
    · subst c21
      refine lv_tableIn (tgt := 959) hx hb dL_law_32 (by decide) (by decide) rfl (by decide) ?_
      exact lw_op_size o21 hL C1 hE hJ1 hJ2 hA1 hA2 hd1 hd2 hi kk hR hP1 hP2 hS hl
    by_cases c22 : j = 22
    · subst c22
      refine lv_tableIn (tgt := 982) hx hb dL_law_32 (by decide) (by decide) rfl (by decide) ?_
      exact lw_op_times o22 hL C1 hE hJ1 hJ2 hA1 hA2 hd1 hd2 hi kk hR hP1 hP2 hS hl
    by_cases c23 : j = 23
    · subst c23
      refine lv_tableIn (tgt := 1025) hx hb dL_law_32 (by decide) (by decide) rfl (by decide) ?_
      exact lw_op_plus o23 hL C1 hE hJ1 hJ2 hA1 hA2 hd1 hd2 hi kk hR hP1 hP2 hS hl
    by_cases c24 : j = 24
    · subst c24
      refine lv_tableIn (tgt := 1068) hx hb dL_law_32 (by decide) (by decide) rfl (by decide) ?_
      exact lw_op_degree o24 hL C1 hE hJ1 hJ2 hA1 hA2 hd1 hd2 hi kk hR hP1 hP2 hS hl
    by_cases c25 : j = 25
    · subst c25
      refine lv_tableIn (tgt := 1091) hx hb dL_law_32 (by decide) (by decide) rfl (by decide) ?_
      exact lw_op_leads o25 hL C1 hE hJ1 hJ2 hA1 hA2 hd1 hd2 hi kk hR hP1 hP2 hS hl
    by_cases c26 : j = 26
    · subst c26
      refine lv_tableIn (tgt := 1124) hx hb dL_law_32 (by decide) (by decide) rfl (by decide) ?_
      exact lw_op_reduce o26 hL C1 hE hJ1 hJ2 hA1 hA2 hd1 hd2 hi kk hR hP1 hP2 hS hl
    by_cases c27 : j = 27
    · subst c27
      refine lv_tableIn (tgt := 1157) hx hb dL_law_32 (by decide) (by decide) rfl (by decide) ?_
      exact lw_op_belongs o27 hL C1 hE hJ1 hJ2 hA1 hA2 hd1 hd2 hi kk hR hP1 hP2 hS hl
    by_cases c28 : j = 28
    · subst c28
      refine lv_tableIn (tgt := 1180) hx hb dL_law_32 (by decide) (by decide) rfl (by decide) ?_
      exact lw_op_stands o28 hL C1 hE hJ1 hJ2 hA1 hA2 hd1 hd2 hi kk hR hP1 hP2 hS hl
    by_cases c29 : j = 29
    · subst c29
      refine lv_tableIn (tgt := 1203) hx hb dL_law_32 (by decide) (by decide) rfl (by decide) ?_
      exact lw_op_kept o29 hL C1 hE hJ1 hJ2 hA1 hA2 hd1 hd2 hi kk hR hP1 hP2 hS hl
    by_cases c30 : j = 30
    · subst c30
      refine lv_tableIn (tgt := 1236) hx hb dL_law_32 (by decide) (by decide) rfl (by decide) ?_
      exact lw_op_image o30 hL C1 hE hJ1 hJ2 hA1 hA2 hd1 hd2 hi kk hR hP1 hP2 hS hl
    by_cases c31 : j = 31
    · subst c31
      refine lv_tableIn (tgt := 1259) hx hb dL_law_32 (by decide) (by decide) rfl (by decide) ?_
      exact lw_op_goBack o31 hL C1 hE hJ1 hJ2 hA1 hA2 hd1 hd2 hi kk hR hP1 hP2 hS hl
    exact absurd hj (by omega)
set_option maxHeartbeats 8000000 in
set_option maxRecDepth 100000 in
theorem whole_open {Rel : smM → smM → Prop} (hOps : OpsOK Rel) (hR0 : Rel smM0 smM0) {p : Program} {e : Env} {s : State} {m : MethodId} {below : List Frame} {meth : Method} {c : Code} (l : Launch) {b L : Nat} {xs : Nat → Int32} (hL : L ≤ 2560) (C0 : lw_At p s m meth c b L xs) : W p l e room_1 s m #[Value.ref b] below meth c s.heap [] 0 0 (lw_Z below #[Value.ref b] s) (entryFrame m ([Value.ref b] : List Value).toArray 4) := by
  obtain ⟨hx, hb, hr, hml, hown, hts, hX, hbl, hlocks, hgv⟩ := id C0
  have hown : s.vm.findClass RL = some m.cls := hown
  have hA : ∀ q : Nat, s.heap.size ≤ q → (fun q : Nat => s.heap.size ≤ q) q := fun _ h => h
  have hi0 : ∀ w ∈ u_ws RX0 TX0 9, w ∈ lw_tbl := fun w h => (goodIn_r (big := lw_tbl) (u_ws RX0 TX0 9) [286, 288, 290, 292, 294, 296, 298, 300, 302] rfl (by decide +kernel) w h).1
  obtain ⟨c0, iS0, hK0⟩ := u_known (C := RX0) (T := TX0) (N := 9) (n := 9) hts hi0 (hts (.instantiable RX0 9) (List.mem_of_getElem? (i := 155) rfl))
  have hi1 : ∀ w ∈ u_ws RX1 TX1 6, w ∈ lw_tbl := fun w h => (goodIn_r (big := lw_tbl) (u_ws RX1 TX1 6) [254, 256, 258, 260, 262, 264] rfl (by decide +kernel) w h).1
  obtain ⟨c1, iS1, hK1⟩ := u_known (C := RX1) (T := TX1) (N := 6) (n := 6) hts hi1 (hts (.instantiable RX1 6) (List.mem_of_getElem? (i := 239) rfl))
  have hi2 : ∀ w ∈ u_ws RX2 TX2 9, w ∈ lw_tbl := fun w h => (goodIn_r (big := lw_tbl) (u_ws RX2 TX2 9) [348, 350, 352, 354, 356, 358, 360, 362, 364] rfl (by decide +kernel) w h).1
  obtain ⟨c2, iS2, hK2⟩ := u_known (C := RX2) (T := TX2) (N := 9) (n := 9) hts hi2 (hts (.instantiable RX2 9) (List.mem_of_getElem? (i := 120) rfl))
  have hi3 : ∀ w ∈ u_ws RX3 TX3 7, w ∈ lw_tbl := fun w h => (goodIn_r (big := lw_tbl) (u_ws RX3 TX3 7) [320, 322, 324, 326, 328, 330, 332] rfl (by decide +kernel) w h).1
  obtain ⟨c3, iS3, hK3⟩ := u_known (C := RX3) (T := TX3) (N := 7) (n := 7) hts hi3 (hts (.instantiable RX3 7) (List.mem_of_getElem? (i := 305) rfl))
  have hi4 : ∀ w ∈ u_ws RX4 TX4 4, w ∈ lw_tbl := fun w h => (goodIn_r (big := lw_tbl) (u_ws RX4 TX4 4) [202, 204, 206, 208] rfl (by decide +kernel) w h).1
  obtain ⟨c4, iS4, hK4⟩ := u_known (C := RX4) (T := TX4) (N := 4) (n := 4) hts hi4 (hts (.instantiable RX4 4) (List.mem_of_getElem? (i := 183) rfl))
  have hi5 : ∀ w ∈ u_ws RX5 TX5 4, w ∈ lw_tbl := fun w h => (goodIn_r (big := lw_tbl) (u_ws RX5 TX5 4) [388, 390, 392, 394] rfl (by decide +kernel) w h).1
  obtain ⟨c5, iS5, hK5⟩ := u_known (C := RX5) (T := TX5) (N := 4) (n := 4) hts hi5 (hts (.instantiable RX5 4) (List.mem_of_getElem? (i := 372) rfl))
  have hi6 : ∀ w ∈ u_ws RX6 TX6 5, w ∈ lw_tbl := fun w h => (goodIn_r (big := lw_tbl) (u_ws RX6 TX6 5) [139, 141, 143, 145, 147] rfl (by decide +kernel) w h).1
  obtain ⟨c6, iS6, hK6⟩ := u_known (C := RX6) (T := TX6) (N := 5) (n := 5) hts hi6 (hts (.instantiable RX6 5) (List.mem_of_getElem? (i := 126) rfl))
  have hi7 : ∀ w ∈ u_ws RX7 TX7 7, w ∈ lw_tbl := fun w h => (goodIn_r (big := lw_tbl) (u_ws RX7 TX7 7) [100, 102, 104, 106, 108, 110, 112] rfl (by decide +kernel) w h).1
  obtain ⟨c7, iS7, hK7⟩ := u_known (C := RX7) (T := TX7) (N := 7) (n := 7) hts hi7 (hts (.instantiable RX7 7) (List.mem_of_getElem? (i := 77) rfl))
  have hi8 : ∀ w ∈ u_ws RX8 TX8 4, w ∈ lw_tbl := fun w h => (goodIn_r (big := lw_tbl) (u_ws RX8 TX8 4) [416, 418, 420, 422] rfl (by decide +kernel) w h).1
  obtain ⟨c8, iS8, hK8⟩ := u_known (C := RX8) (T := TX8) (N := 4) (n := 4) hts hi8 (hts (.instantiable RX8 4) (List.mem_of_getElem? (i := 397) rfl))
  have hi9 : ∀ w ∈ u_ws RX9 TX9 5, w ∈ lw_tbl := fun w h => (goodIn_r (big := lw_tbl) (u_ws RX9 TX9 5) [226, 228, 230, 232, 234] rfl (by decide +kernel) w h).1
  obtain ⟨c9, iS9, hK9⟩ := u_known (C := RX9) (T := TX9) (N := 5) (n := 5) hts hi9 (hts (.instantiable RX9 5) (List.mem_of_getElem? (i := 212) rfl))
  have hi10 : ∀ w ∈ u_ws RX10 TX10 3, w ∈ lw_tbl := fun w h => (goodIn_r (big := lw_tbl) (u_ws RX10 TX10 3) [175, 177, 179] rfl (by decide +kernel) w h).1
  obtain ⟨c10, iS10, hK10⟩ := u_known (C := RX10) (T := TX10) (N := 3) (n := 3) hts hi10 (hts (.instantiable RX10 3) (List.mem_of_getElem? (i := 161) rfl))
  have hi11 : ∀ w ∈ u_ws RX11 TX11 11, w ∈ lw_tbl := fun w h => (goodIn_r (big := lw_tbl) (u_ws RX11 TX11 11) [436, 438, 440, 442, 444, 446, 448, 450, 452, 454, 456] rfl (by decide +kernel) w h).1
  obtain ⟨c11, iS11, hK11⟩ := u_known (C := RX11) (T := TX11) (N := 11) (n := 11) hts hi11 (hts (.instantiable RX11 11) (List.mem_of_getElem? (i := 69) rfl))
  have hi12 : ∀ w ∈ u_ws RX12 TX12 54, w ∈ lw_tbl := fun w h => (goodIn_r (big := lw_tbl) (u_ws RX12 TX12 54) [1042, 1044, 1046, 1048, 1050, 1052, 1054, 1056, 1058, 1060, 1062, 1064, 1066, 1068, 1070, 1072, 1074, 1076, 1078, 1080, 1082, 1084, 1086, 1088, 1090, 1092, 1094, 1096, 1098, 1100, 1102, 1104, 1106, 1108, 1110, 1112, 1114, 1116, 1118, 1120, 1122, 1124, 1126, 1128, 1130, 1132, 1134, 1136, 1138, 1140, 1142, 1144, 1146, 1148] rfl (by decide +kernel) w h).1
  obtain ⟨c12, iS12, hK12⟩ := u_known (C := RX12) (T := TX12) (N := 54) (n := 54) hts hi12 (hts (.instantiable RX12 54) (List.mem_of_getElem? (i := 983) rfl))
  obtain ⟨dC, dI, hKc⟩ : ∃ (dC : Nat → ClassId) (dI : Nat → Nat → Nat), ∀ (k : Nat) (q : vw_C), vwCl[k]? = some q → u_Kn s q.1 q.2.1 q.2.2 (dC k) (dI k) := by
    refine ⟨fun k => if k = 0 then c0 else if k = 1 then c1 else if k = 2 then c2 else if k = 3 then c3 else if k = 4 then c4 else if k = 5 then c5 else if k = 6 then c6 else if k = 7 then c7 else if k = 8 then c8 else if k = 9 then c9 else if k = 10 then c10 else if k = 11 then c11 else c12, fun k => if k = 0 then iS0 else if k = 1 then iS1 else if k = 2 then iS2 else if k = 3 then iS3 else if k = 4 then iS4 else if k = 5 then iS5 else if k = 6 then iS6 else if k = 7 then iS7 else if k = 8 then iS8 else if k = 9 then iS9 else if k = 10 then iS10 else if k = 11 then iS11 else iS12, ?_⟩
    intro k q hq
    match k, hq with
    | 0, hq => cases hq; exact hK0
    | 1, hq => cases hq; exact hK1
    | 2, hq => cases hq; exact hK2
    | 3, hq => cases hq; exact hK3
    | 4, hq => cases hq; exact hK4
    | 5, hq => cases hq; exact hK5
    | 6, hq => cases hq; exact hK6
    | 7, hq => cases hq; exact hK7
    | 8, hq => cases hq; exact hK8
    | 9, hq => cases hq; exact hK9
    | 10, hq => cases hq; exact hK10
    | 11, hq => cases hq; exact hK11
    | 12, hq => cases hq; exact hK12
    | k + 13, hq => simp [vwCl] at hq
  obtain ⟨a0, h00, h01⟩ := lw_arrI (t := .int) (hts (.arrayClass .int) (List.mem_of_getElem? (i := 115) rfl)) (fun C h => by cases h)
  obtain ⟨a1, h10, h11⟩ := lw_arrI (t := .boolean) (hts (.arrayClass .boolean) (List.mem_of_getElem? (i := 150) rfl)) (fun C h => by cases h)
  have w2 : va_AOA .int s := va_AOA.of (hts (.arrayOver (.array .int)) (List.mem_of_getElem? (i := 132) rfl))
  have w3 : va_AO "OrderMover$Setting" s := va_AO.of (hts (.arrayOver (.object "OrderMover$Setting")) (List.mem_of_getElem? (i := 116) rfl))
  have w4 : va_AO "OrderMover$Slot" s := va_AO.of (hts (.arrayOver (.object "OrderMover$Slot")) (List.mem_of_getElem? (i := 118) rfl))
  have w5 : va_AO "OrderMover$Least" s := va_AO.of (hts (.arrayOver (.object "OrderMover$Least")) (List.mem_of_getElem? (i := 152) rfl))
  have w6 : va_AO "OrderMover$Base" s := va_AO.of (hts (.arrayOver (.object "OrderMover$Base")) (List.mem_of_getElem? (i := 154) rfl))
  obtain ⟨a2, h20, h21⟩ := lw_arrA w2
  obtain ⟨a3, h30, h31⟩ := lw_arrO w3
  obtain ⟨a4, h40, h41⟩ := lw_arrO w4
  obtain ⟨a5, h50, h51⟩ := lw_arrO w5
  obtain ⟨a6, h60, h61⟩ := lw_arrO w6
  obtain ⟨cA, e0, e1, e2, e3, e4, e5, e6⟩ : ∃ cA : Nat → ClassId, cA 0 = a0 ∧ cA 1 = a1 ∧ cA 2 = a2 ∧ cA 3 = a3 ∧ cA 4 = a4 ∧ cA 5 = a5 ∧ cA 6 = a6 := ⟨fun k => if k = 0 then a0 else if k = 1 then a1 else if k = 2 then a2 else if k = 3 then a3 else if k = 4 then a4 else if k = 5 then a5 else a6, rfl, rfl, rfl, rfl, rfl, rfl, rfl⟩
  subst e0; subst e1; subst e2; subst e3; subst e4; subst e5; subst e6
  have hK : va_K (dC, dI) vwCl (smTys cA) s := by
    refine ⟨hKc, fun k q hq => ?_⟩
    match k, hq with
    | 0, hq => cases hq; exact ⟨h00, h01⟩
    | 1, hq => cases hq; exact ⟨h10, h11⟩
    | 2, hq => cases hq; exact ⟨h20, h21⟩
    | 3, hq => cases hq; exact ⟨h30, h31⟩
    | 4, hq => cases hq; exact ⟨h40, h41⟩
    | 5, hq => cases hq; exact ⟨h50, h51⟩
    | 6, hq => cases hq; exact ⟨h60, h61⟩
    | k + 7, hq => simp [smTys] at hq
  have hN : ∀ q ∈ smNest, va_Nw (.methodLinkNest q.1 q.2.1 q.2.2.1 q.2.2.2) s := by
    have hN0 : ∀ w ∈ smNest.map (fun q => Cond.methodLinkNest q.1 q.2.1 q.2.2.1 q.2.2.2), w ∈ lw_tbl := fun w h => lw_memr (big := lw_tbl) _ [78, 127, 156, 162, 184, 213, 240, 306, 368, 370, 398, 405, 407, 473, 484, 493, 506, 521, 589, 596, 597, 652, 653, 658, 659, 660, 667, 668, 673, 674, 700, 701, 709, 745, 789, 803] rfl w h
    intro q hq
    exact va_Nw.of rfl (hts _ (hN0 _ (List.mem_map_of_mem hq)))
  have hE : cnEnv (dC, dI) cA s := ⟨⟨hK, hN⟩, w2, w3, w4, w5, w6⟩
  have hS : va_S (fun q : Nat => s.heap.size ≤ q) s.heap s.heap [] := va_S.rf
  have hP : va_P (dC, dI) vwCl [] s.heap := fun k q h => by simp at h
  have hD : va_D (fun q : Nat => s.heap.size ≤ q) [] := ⟨fun i j p q h => by simp at h, fun k q h => by simp at h⟩
  have hl := lv_entry ([.ref b]) (n := 4) (Nat.le_of_ble_eq_true rfl)
  rw [lg_entry_eq]
  generalize (lg_sl ([.ref b]) ++ List.replicate (4 - (lg_sl ([.ref b])).length) Slot.unset).toArray = ls at hl ⊢
  have hl : lv_has ls 4 [(0, .ref b)] := hl
  refine va_new (ci := 11) (fs := [.null, .null, .null, .null, .null, .null, .null, .null, .null, .null, .null]) (C := RX11) (T := TX11) (N := 11) hx hb hts hi11 tyX11 tyX11_ok hown (hts (.classLink RL 7 RX11) (List.mem_of_getElem? (i := 68) rfl)) (hts (.instantiable RX11 11) (List.mem_of_getElem? (i := 69) rfl)) (hts (.initialized RX11) (List.mem_of_getElem? (i := 54) rfl)) hE.1.1 hP hD hS hA rfl (by decide) (Nat.le_of_ble_eq_true rfl) (Nat.le_of_ble_eq_true rfl) dL_law_0 (fun o11 H hP hD hS => ?_)
  refine lv_dup hx hb dL_law_3 rfl ?_
  have hP : va_P (dC, dI) vwCl ([] ++ [(o11, .inr (11, [.null, .null, .null, .null, .null, .null, .null, .null, .null, .null, .null]))]) H := hP
  have hD : va_D (fun q : Nat => s.heap.size ≤ q) ([] ++ [(o11, .inr (11, [.null, .null, .null, .null, .null, .null, .null, .null, .null, .null, .null]))]) := hD
  have hPc : va_P (dC, dI) vwCl [(o11, .inr (11, [.null, .null, .null, .null, .null, .null, .null, .null, .null, .null, .null]))] H := cn_right hP
  have hDc : va_D (fun q : Nat => s.heap.size ≤ q) [(o11, .inr (11, [.null, .null, .null, .null, .null, .null, .null, .null, .null, .null, .null]))] := cn_rightD hD
  have hFc : ∀ q, va_A [(o11, .inr (11, [.null, .null, .null, .null, .null, .null, .null, .null, .null, .null, .null]))] H.size q → s.heap.size ≤ q := fun q h => by rcases h with ⟨k, e, h⟩ | h; exact hDc.2 k (q, e) h; exact Nat.le_trans hS.1 h
  refine va_callv (va_runI (As := []) (rest := [.ref o11]) ⟨hx, hb, hml, hown, hts⟩ (cn_11_0 l (dC, dI) cA o11 H.size) (cwI 0 hts hh_X11_init rfl rfl rfl (hts (.initialized RX11) (List.mem_of_getElem? (i := 54) rfl)) (hts (.methodLink RL 9 yX11_init) (List.mem_of_getElem? (i := 70) rfl)) (hts (.instanceMethod yX11_init) (List.mem_of_getElem? (i := 71) rfl)) rfl (by decide +kernel) ⟨Nat.le_of_ble_eq_true rfl, Nat.le_of_ble_eq_true rfl⟩) ⟨cn_bl, cn_in hE hPc (hDc.weaken (fun _ _ _ _ => trivial))⟩ rfl rfl hl.1 rfl (lv_room (Nat.le_of_ble_eq_true rfl)) dL_law_4 ⟨Nat.le_of_ble_eq_true rfl, Nat.le_of_ble_eq_true rfl⟩) hS (fun q _ h => hFc q h) hFc (fun ad11 t H1 locs ht hvm hw hB hz1 hk1 hS => ?_)
  obtain ⟨hP1, hD1⟩ := hB
  rw [ht] at hP1
  have hw : ad11 0 = o11 := hw
  have hP : va_P (dC, dI) vwCl (cn_rl cA [0, 4, 11, 12, 504, 505, 506, 73, 79, 80, 81, 82, 83, 84, 85, 86, 87, 88, 89, 90, 91, 92, 78, 74, 75, 76, 77, 53, 59, 60, 61, 62, 63, 64, 65, 66, 67, 68, 69, 70, 71, 72, 58, 54, 55, 56, 57, 33, 39, 40, 41, 42, 43, 44, 45, 46, 47, 48, 49, 50, 51, 52, 38, 34, 35, 36, 37, 13, 19, 20, 21, 22, 23, 24, 25, 26, 27, 28, 29, 30, 31, 32, 18, 14, 15, 16, 17, 8, 9, 10, 5, 6, 7, 500, 501, 502, 503, 499, 441, 479, 480, 481, 497, 498, 491, 492, 493, 494, 495, 496, 482, 483, 484, 485, 486, 487, 488, 489, 490, 457, 458, 468, 478, 469, 470, 471, 472, 473, 474, 475, 476, 477, 459, 460, 461, 462, 463, 464, 465, 466, 467, 443, 444, 445, 446, 447, 448, 449, 450, 451, 452, 453, 454, 455, 456, 442, 93, 133, 146, 147, 148, 439, 440, 140, 141, 142, 143, 144, 145, 134, 135, 136, 137, 138, 139, 381, 419, 420, 421, 437, 438, 431, 432, 433, 434, 435, 436, 422, 423, 424, 425, 426, 427, 428, 429, 430, 397, 398, 408, 418, 409, 410, 411, 412, 413, 414, 415, 416, 417, 399, 400, 401, 402, 403, 404, 405, 406, 407, 383, 384, 385, 386, 387, 388, 389, 390, 391, 392, 393, 394, 395, 396, 382, 323, 361, 362, 363, 379, 380, 373, 374, 375, 376, 377, 378, 364, 365, 366, 367, 368, 369, 370, 371, 372, 339, 340, 350, 360, 351, 352, 353, 354, 355, 356, 357, 358, 359, 341, 342, 343, 344, 345, 346, 347, 348, 349, 325, 326, 327, 328, 329, 330, 331, 332, 333, 334, 335, 336, 337, 338, 324, 265, 303, 304, 305, 321, 322, 315, 316, 317, 318, 319, 320, 306, 307, 308, 309, 310, 311, 312, 313, 314, 281, 282, 292, 302, 293, 294, 295, 296, 297, 298, 299, 300, 301, 283, 284, 285, 286, 287, 288, 289, 290, 291, 267, 268, 269, 270, 271, 272, 273, 274, 275, 276, 277, 278, 279, 280, 266, 207, 245, 246, 247, 263, 264, 257, 258, 259, 260, 261, 262, 248, 249, 250, 251, 252, 253, 254, 255, 256, 223, 224, 234, 244, 235, 236, 237, 238, 239, 240, 241, 242, 243, 225, 226, 227, 228, 229, 230, 231, 232, 233, 209, 210, 211, 212, 213, 214, 215, 216, 217, 218, 219, 220, 221, 222, 208, 149, 187, 188, 189, 205, 206, 199, 200, 201, 202, 203, 204, 190, 191, 192, 193, 194, 195, 196, 197, 198, 165, 166, 176, 186, 177, 178, 179, 180, 181, 182, 183, 184, 185, 167, 168, 169, 170, 171, 172, 173, 174, 175, 151, 152, 153, 154, 155, 156, 157, 158, 159, 160, 161, 162, 163, 164, 150, 94, 95, 132, 96, 97, 98, 99, 100, 101, 102, 103, 104, 105, 106, 107, 108, 109, 110, 111, 112, 113, 114, 115, 116, 117, 118, 119, 120, 121, 122, 123, 124, 125, 126, 127, 128, 129, 130, 131, 1, 2, 3] ad11) H1 := hP1
  have hD : va_D (fun q : Nat => s.heap.size ≤ q) (cn_rl cA [0, 4, 11, 12, 504, 505, 506, 73, 79, 80, 81, 82, 83, 84, 85, 86, 87, 88, 89, 90, 91, 92, 78, 74, 75, 76, 77, 53, 59, 60, 61, 62, 63, 64, 65, 66, 67, 68, 69, 70, 71, 72, 58, 54, 55, 56, 57, 33, 39, 40, 41, 42, 43, 44, 45, 46, 47, 48, 49, 50, 51, 52, 38, 34, 35, 36, 37, 13, 19, 20, 21, 22, 23, 24, 25, 26, 27, 28, 29, 30, 31, 32, 18, 14, 15, 16, 17, 8, 9, 10, 5, 6, 7, 500, 501, 502, 503, 499, 441, 479, 480, 481, 497, 498, 491, 492, 493, 494, 495, 496, 482, 483, 484, 485, 486, 487, 488, 489, 490, 457, 458, 468, 478, 469, 470, 471, 472, 473, 474, 475, 476, 477, 459, 460, 461, 462, 463, 464, 465, 466, 467, 443, 444, 445, 446, 447, 448, 449, 450, 451, 452, 453, 454, 455, 456, 442, 93, 133, 146, 147, 148, 439, 440, 140, 141, 142, 143, 144, 145, 134, 135, 136, 137, 138, 139, 381, 419, 420, 421, 437, 438, 431, 432, 433, 434, 435, 436, 422, 423, 424, 425, 426, 427, 428, 429, 430, 397, 398, 408, 418, 409, 410, 411, 412, 413, 414, 415, 416, 417, 399, 400, 401, 402, 403, 404, 405, 406, 407, 383, 384, 385, 386, 387, 388, 389, 390, 391, 392, 393, 394, 395, 396, 382, 323, 361, 362, 363, 379, 380, 373, 374, 375, 376, 377, 378, 364, 365, 366, 367, 368, 369, 370, 371, 372, 339, 340, 350, 360, 351, 352, 353, 354, 355, 356, 357, 358, 359, 341, 342, 343, 344, 345, 346, 347, 348, 349, 325, 326, 327, 328, 329, 330, 331, 332, 333, 334, 335, 336, 337, 338, 324, 265, 303, 304, 305, 321, 322, 315, 316, 317, 318, 319, 320, 306, 307, 308, 309, 310, 311, 312, 313, 314, 281, 282, 292, 302, 293, 294, 295, 296, 297, 298, 299, 300, 301, 283, 284, 285, 286, 287, 288, 289, 290, 291, 267, 268, 269, 270, 271, 272, 273, 274, 275, 276, 277, 278, 279, 280, 266, 207, 245, 246, 247, 263, 264, 257, 258, 259, 260, 261, 262, 248, 249, 250, 251, 252, 253, 254, 255, 256, 223, 224, 234, 244, 235, 236, 237, 238, 239, 240, 241, 242, 243, 225, 226, 227, 228, 229, 230, 231, 232, 233, 209, 210, 211, 212, 213, 214, 215, 216, 217, 218, 219, 220, 221, 222, 208, 149, 187, 188, 189, 205, 206, 199, 200, 201, 202, 203, 204, 190, 191, 192, 193, 194, 195, 196, 197, 198, 165, 166, 176, 186, 177, 178, 179, 180, 181, 182, 183, 184, 185, 167, 168, 169, 170, 171, 172, 173, 174, 175, 151, 152, 153, 154, 155, 156, 157, 158, 159, 160, 161, 162, 163, 164, 150, 94, 95, 132, 96, 97, 98, 99, 100, 101, 102, 103, 104, 105, 106, 107, 108, 109, 110, 111, 112, 113, 114, 115, 116, 117, 118, 119, 120, 121, 122, 123, 124, 125, 126, 127, 128, 129, 130, 131, 1, 2, 3] ad11) := hD1.weaken (fun k q _ h => hFc q.1 h)
  generalize H1 = H at hP hS ⊢
  rw [← hw]
  clear hw hP1 hD1 hPc hDc hFc hz1 hk1
  refine lv_astore_n (lv' := [(1, .ref (ad11 0)), (0, .ref b)]) hx hb dL_law_7 rfl hl (by decide) rfl (fun ls hl => ?_)
  refine va_new (ci := 12) (fs := [.int 0, .int 0, .int 0, .int 0, .int 0, .null, .null, .null, .null, .null, .null, .null, .null, .null, .null, .null, .null, .null, .null, .null, .null, .null, .null, .null, .null, .null, .int 0, .int 0, .int 0, .int 0, .null, .null, .null, .null, .int 0, .null, .null, .null, .int 0, .null, .null, .null, .null, .int 0, .null, .null, .int 0, .null, .null, .null, .null, .null, .int 0, .null]) (C := RX12) (T := TX12) (N := 54) hx hb hts hi12 tyX12 tyX12_ok hown (hts (.classLink RL 10 RX12) (List.mem_of_getElem? (i := 982) rfl)) (hts (.instantiable RX12 54) (List.mem_of_getElem? (i := 983) rfl)) (hts (.initialized RX12) (List.mem_of_getElem? (i := 67) rfl)) hE.1.1 hP hD hS hA rfl (by decide) (Nat.le_of_ble_eq_true rfl) (Nat.le_of_ble_eq_true rfl) dL_law_8 (fun o12 H hP hD hS => ?_)
  refine lv_dup hx hb dL_law_11 rfl ?_
  have hP : va_P (dC, dI) vwCl (cn_rl cA [0, 4, 11, 12, 504, 505, 506, 73, 79, 80, 81, 82, 83, 84, 85, 86, 87, 88, 89, 90, 91, 92, 78, 74, 75, 76, 77, 53, 59, 60, 61, 62, 63, 64, 65, 66, 67, 68, 69, 70, 71, 72, 58, 54, 55, 56, 57, 33, 39, 40, 41, 42, 43, 44, 45, 46, 47, 48, 49, 50, 51, 52, 38, 34, 35, 36, 37, 13, 19, 20, 21, 22, 23, 24, 25, 26, 27, 28, 29, 30, 31, 32, 18, 14, 15, 16, 17, 8, 9, 10, 5, 6, 7, 500, 501, 502, 503, 499, 441, 479, 480, 481, 497, 498, 491, 492, 493, 494, 495, 496, 482, 483, 484, 485, 486, 487, 488, 489, 490, 457, 458, 468, 478, 469, 470, 471, 472, 473, 474, 475, 476, 477, 459, 460, 461, 462, 463, 464, 465, 466, 467, 443, 444, 445, 446, 447, 448, 449, 450, 451, 452, 453, 454, 455, 456, 442, 93, 133, 146, 147, 148, 439, 440, 140, 141, 142, 143, 144, 145, 134, 135, 136, 137, 138, 139, 381, 419, 420, 421, 437, 438, 431, 432, 433, 434, 435, 436, 422, 423, 424, 425, 426, 427, 428, 429, 430, 397, 398, 408, 418, 409, 410, 411, 412, 413, 414, 415, 416, 417, 399, 400, 401, 402, 403, 404, 405, 406, 407, 383, 384, 385, 386, 387, 388, 389, 390, 391, 392, 393, 394, 395, 396, 382, 323, 361, 362, 363, 379, 380, 373, 374, 375, 376, 377, 378, 364, 365, 366, 367, 368, 369, 370, 371, 372, 339, 340, 350, 360, 351, 352, 353, 354, 355, 356, 357, 358, 359, 341, 342, 343, 344, 345, 346, 347, 348, 349, 325, 326, 327, 328, 329, 330, 331, 332, 333, 334, 335, 336, 337, 338, 324, 265, 303, 304, 305, 321, 322, 315, 316, 317, 318, 319, 320, 306, 307, 308, 309, 310, 311, 312, 313, 314, 281, 282, 292, 302, 293, 294, 295, 296, 297, 298, 299, 300, 301, 283, 284, 285, 286, 287, 288, 289, 290, 291, 267, 268, 269, 270, 271, 272, 273, 274, 275, 276, 277, 278, 279, 280, 266, 207, 245, 246, 247, 263, 264, 257, 258, 259, 260, 261, 262, 248, 249, 250, 251, 252, 253, 254, 255, 256, 223, 224, 234, 244, 235, 236, 237, 238, 239, 240, 241, 242, 243, 225, 226, 227, 228, 229, 230, 231, 232, 233, 209, 210, 211, 212, 213, 214, 215, 216, 217, 218, 219, 220, 221, 222, 208, 149, 187, 188, 189, 205, 206, 199, 200, 201, 202, 203, 204, 190, 191, 192, 193, 194, 195, 196, 197, 198, 165, 166, 176, 186, 177, 178, 179, 180, 181, 182, 183, 184, 185, 167, 168, 169, 170, 171, 172, 173, 174, 175, 151, 152, 153, 154, 155, 156, 157, 158, 159, 160, 161, 162, 163, 164, 150, 94, 95, 132, 96, 97, 98, 99, 100, 101, 102, 103, 104, 105, 106, 107, 108, 109, 110, 111, 112, 113, 114, 115, 116, 117, 118, 119, 120, 121, 122, 123, 124, 125, 126, 127, 128, 129, 130, 131, 1, 2, 3] ad11 ++ [(o12, .inr (12, [.int 0, .int 0, .int 0, .int 0, .int 0, .null, .null, .null, .null, .null, .null, .null, .null, .null, .null, .null, .null, .null, .null, .null, .null, .null, .null, .null, .null, .null, .int 0, .int 0, .int 0, .int 0, .null, .null, .null, .null, .int 0, .null, .null, .null, .int 0, .null, .null, .null, .null, .int 0, .null, .null, .int 0, .null, .null, .null, .null, .null, .int 0, .null]))]) H := hP
  have hD : va_D (fun q : Nat => s.heap.size ≤ q) (cn_rl cA [0, 4, 11, 12, 504, 505, 506, 73, 79, 80, 81, 82, 83, 84, 85, 86, 87, 88, 89, 90, 91, 92, 78, 74, 75, 76, 77, 53, 59, 60, 61, 62, 63, 64, 65, 66, 67, 68, 69, 70, 71, 72, 58, 54, 55, 56, 57, 33, 39, 40, 41, 42, 43, 44, 45, 46, 47, 48, 49, 50, 51, 52, 38, 34, 35, 36, 37, 13, 19, 20, 21, 22, 23, 24, 25, 26, 27, 28, 29, 30, 31, 32, 18, 14, 15, 16, 17, 8, 9, 10, 5, 6, 7, 500, 501, 502, 503, 499, 441, 479, 480, 481, 497, 498, 491, 492, 493, 494, 495, 496, 482, 483, 484, 485, 486, 487, 488, 489, 490, 457, 458, 468, 478, 469, 470, 471, 472, 473, 474, 475, 476, 477, 459, 460, 461, 462, 463, 464, 465, 466, 467, 443, 444, 445, 446, 447, 448, 449, 450, 451, 452, 453, 454, 455, 456, 442, 93, 133, 146, 147, 148, 439, 440, 140, 141, 142, 143, 144, 145, 134, 135, 136, 137, 138, 139, 381, 419, 420, 421, 437, 438, 431, 432, 433, 434, 435, 436, 422, 423, 424, 425, 426, 427, 428, 429, 430, 397, 398, 408, 418, 409, 410, 411, 412, 413, 414, 415, 416, 417, 399, 400, 401, 402, 403, 404, 405, 406, 407, 383, 384, 385, 386, 387, 388, 389, 390, 391, 392, 393, 394, 395, 396, 382, 323, 361, 362, 363, 379, 380, 373, 374, 375, 376, 377, 378, 364, 365, 366, 367, 368, 369, 370, 371, 372, 339, 340, 350, 360, 351, 352, 353, 354, 355, 356, 357, 358, 359, 341, 342, 343, 344, 345, 346, 347, 348, 349, 325, 326, 327, 328, 329, 330, 331, 332, 333, 334, 335, 336, 337, 338, 324, 265, 303, 304, 305, 321, 322, 315, 316, 317, 318, 319, 320, 306, 307, 308, 309, 310, 311, 312, 313, 314, 281, 282, 292, 302, 293, 294, 295, 296, 297, 298, 299, 300, 301, 283, 284, 285, 286, 287, 288, 289, 290, 291, 267, 268, 269, 270, 271, 272, 273, 274, 275, 276, 277, 278, 279, 280, 266, 207, 245, 246, 247, 263, 264, 257, 258, 259, 260, 261, 262, 248, 249, 250, 251, 252, 253, 254, 255, 256, 223, 224, 234, 244, 235, 236, 237, 238, 239, 240, 241, 242, 243, 225, 226, 227, 228, 229, 230, 231, 232, 233, 209, 210, 211, 212, 213, 214, 215, 216, 217, 218, 219, 220, 221, 222, 208, 149, 187, 188, 189, 205, 206, 199, 200, 201, 202, 203, 204, 190, 191, 192, 193, 194, 195, 196, 197, 198, 165, 166, 176, 186, 177, 178, 179, 180, 181, 182, 183, 184, 185, 167, 168, 169, 170, 171, 172, 173, 174, 175, 151, 152, 153, 154, 155, 156, 157, 158, 159, 160, 161, 162, 163, 164, 150, 94, 95, 132, 96, 97, 98, 99, 100, 101, 102, 103, 104, 105, 106, 107, 108, 109, 110, 111, 112, 113, 114, 115, 116, 117, 118, 119, 120, 121, 122, 123, 124, 125, 126, 127, 128, 129, 130, 131, 1, 2, 3] ad11 ++ [(o12, .inr (12, [.int 0, .int 0, .int 0, .int 0, .int 0, .null, .null, .null, .null, .null, .null, .null, .null, .null, .null, .null, .null, .null, .null, .null, .null, .null, .null, .null, .null, .null, .int 0, .int 0, .int 0, .int 0, .null, .null, .null, .null, .int 0, .null, .null, .null, .int 0, .null, .null, .null, .null, .int 0, .null, .null, .int 0, .null, .null, .null, .null, .null, .int 0, .null]))]) := hD
  have hPc : va_P (dC, dI) vwCl [(o12, .inr (12, [.int 0, .int 0, .int 0, .int 0, .int 0, .null, .null, .null, .null, .null, .null, .null, .null, .null, .null, .null, .null, .null, .null, .null, .null, .null, .null, .null, .null, .null, .int 0, .int 0, .int 0, .int 0, .null, .null, .null, .null, .int 0, .null, .null, .null, .int 0, .null, .null, .null, .null, .int 0, .null, .null, .int 0, .null, .null, .null, .null, .null, .int 0, .null]))] H := cn_right hP
  have hDc : va_D (fun q : Nat => s.heap.size ≤ q) [(o12, .inr (12, [.int 0, .int 0, .int 0, .int 0, .int 0, .null, .null, .null, .null, .null, .null, .null, .null, .null, .null, .null, .null, .null, .null, .null, .null, .null, .null, .null, .null, .null, .int 0, .int 0, .int 0, .int 0, .null, .null, .null, .null, .int 0, .null, .null, .null, .int 0, .null, .null, .null, .null, .int 0, .null, .null, .int 0, .null, .null, .null, .null, .null, .int 0, .null]))] := cn_rightD hD
  have hFc : ∀ q, va_A [(o12, .inr (12, [.int 0, .int 0, .int 0, .int 0, .int 0, .null, .null, .null, .null, .null, .null, .null, .null, .null, .null, .null, .null, .null, .null, .null, .null, .null, .null, .null, .null, .null, .int 0, .int 0, .int 0, .int 0, .null, .null, .null, .null, .int 0, .null, .null, .null, .int 0, .null, .null, .null, .null, .int 0, .null, .null, .int 0, .null, .null, .null, .null, .null, .int 0, .null]))] H.size q → s.heap.size ≤ q := fun q h => by rcases h with ⟨k, e, h⟩ | h; exact hDc.2 k (q, e) h; exact Nat.le_trans hS.1 h
  refine va_callv (va_runI (As := []) (rest := [.ref o12]) ⟨hx, hb, hml, hown, hts⟩ (cn_12_1000 l (dC, dI) cA o12 H.size) (cwI 0 hts hh_X12_init rfl rfl rfl (hts (.initialized RX12) (List.mem_of_getElem? (i := 67) rfl)) (hts (.methodLink RL 12 yX12_init) (List.mem_of_getElem? (i := 984) rfl)) (hts (.instanceMethod yX12_init) (List.mem_of_getElem? (i := 985) rfl)) rfl (by decide +kernel) ⟨Nat.le_of_ble_eq_true rfl, Nat.le_of_ble_eq_true rfl⟩) ⟨cn_bl, cn_in hE hPc (hDc.weaken (fun _ _ _ _ => trivial))⟩ rfl rfl hl.1 rfl (lv_room (Nat.le_of_ble_eq_true rfl)) dL_law_12 ⟨Nat.le_of_ble_eq_true rfl, Nat.le_of_ble_eq_true rfl⟩) hS (fun q _ h => hFc q h) hFc (fun ad12 t H1 locs ht hvm hw hB hz1 hk1 hS => ?_)
  obtain ⟨hP1, hD1⟩ := hB
  rw [ht] at hP1
  have hw : ad12 1000 = o12 := hw
  obtain ⟨hP, hD⟩ := cn_join2 hP hD hk1 hFc hP1 hD1
  generalize H1 = H at hP hS ⊢
  rw [← hw]
  clear hw hP1 hD1 hPc hDc hFc hz1 hk1
  refine lv_astore_n (lv' := [(2, .ref (ad12 1000)), (1, .ref (ad11 0)), (0, .ref b)]) hx hb dL_law_15 rfl hl (by decide) rfl (fun ls hl => ?_)
  refine lv_iconst (v := 0) hx hb dL_law_16 (by decide) ?_
  refine lv_istore_n (lv' := [(3, .int 0), (2, .ref (ad12 1000)), (1, .ref (ad11 0)), (0, .ref b)]) hx hb dL_law_17 rfl hl (by decide) rfl (fun ls hl => ?_)
  have hm1 : ∀ i, i < smNn 1 → smLo 1 + i ∈ [0, 4, 11, 12, 504, 505, 506, 73, 79, 80, 81, 82, 83, 84, 85, 86, 87, 88, 89, 90, 91, 92, 78, 74, 75, 76, 77, 53, 59, 60, 61, 62, 63, 64, 65, 66, 67, 68, 69, 70, 71, 72, 58, 54, 55, 56, 57, 33, 39, 40, 41, 42, 43, 44, 45, 46, 47, 48, 49, 50, 51, 52, 38, 34, 35, 36, 37, 13, 19, 20, 21, 22, 23, 24, 25, 26, 27, 28, 29, 30, 31, 32, 18, 14, 15, 16, 17, 8, 9, 10, 5, 6, 7, 500, 501, 502, 503, 499, 441, 479, 480, 481, 497, 498, 491, 492, 493, 494, 495, 496, 482, 483, 484, 485, 486, 487, 488, 489, 490, 457, 458, 468, 478, 469, 470, 471, 472, 473, 474, 475, 476, 477, 459, 460, 461, 462, 463, 464, 465, 466, 467, 443, 444, 445, 446, 447, 448, 449, 450, 451, 452, 453, 454, 455, 456, 442, 93, 133, 146, 147, 148, 439, 440, 140, 141, 142, 143, 144, 145, 134, 135, 136, 137, 138, 139, 381, 419, 420, 421, 437, 438, 431, 432, 433, 434, 435, 436, 422, 423, 424, 425, 426, 427, 428, 429, 430, 397, 398, 408, 418, 409, 410, 411, 412, 413, 414, 415, 416, 417, 399, 400, 401, 402, 403, 404, 405, 406, 407, 383, 384, 385, 386, 387, 388, 389, 390, 391, 392, 393, 394, 395, 396, 382, 323, 361, 362, 363, 379, 380, 373, 374, 375, 376, 377, 378, 364, 365, 366, 367, 368, 369, 370, 371, 372, 339, 340, 350, 360, 351, 352, 353, 354, 355, 356, 357, 358, 359, 341, 342, 343, 344, 345, 346, 347, 348, 349, 325, 326, 327, 328, 329, 330, 331, 332, 333, 334, 335, 336, 337, 338, 324, 265, 303, 304, 305, 321, 322, 315, 316, 317, 318, 319, 320, 306, 307, 308, 309, 310, 311, 312, 313, 314, 281, 282, 292, 302, 293, 294, 295, 296, 297, 298, 299, 300, 301, 283, 284, 285, 286, 287, 288, 289, 290, 291, 267, 268, 269, 270, 271, 272, 273, 274, 275, 276, 277, 278, 279, 280, 266, 207, 245, 246, 247, 263, 264, 257, 258, 259, 260, 261, 262, 248, 249, 250, 251, 252, 253, 254, 255, 256, 223, 224, 234, 244, 235, 236, 237, 238, 239, 240, 241, 242, 243, 225, 226, 227, 228, 229, 230, 231, 232, 233, 209, 210, 211, 212, 213, 214, 215, 216, 217, 218, 219, 220, 221, 222, 208, 149, 187, 188, 189, 205, 206, 199, 200, 201, 202, 203, 204, 190, 191, 192, 193, 194, 195, 196, 197, 198, 165, 166, 176, 186, 177, 178, 179, 180, 181, 182, 183, 184, 185, 167, 168, 169, 170, 171, 172, 173, 174, 175, 151, 152, 153, 154, 155, 156, 157, 158, 159, 160, 161, 162, 163, 164, 150, 94, 95, 132, 96, 97, 98, 99, 100, 101, 102, 103, 104, 105, 106, 107, 108, 109, 110, 111, 112, 113, 114, 115, 116, 117, 118, 119, 120, 121, 122, 123, 124, 125, 126, 127, 128, 129, 130, 131, 1, 2, 3] := by decide +kernel
  have hm2 : ∀ i, i < smNn 2 → smLo 2 + i ∈ [1000, 1001, 1002, 1003, 1004, 1005, 1006, 1007, 1008, 1009, 1010, 1011, 1012, 1013, 1014, 1015, 1016, 1017, 1018, 1019, 1020, 1021, 1022, 1023, 1024, 1025, 1026, 1027, 1028, 1029, 1030, 1031, 1032, 1033, 1034, 1035, 1036, 1037, 1038, 1039, 1040] := by decide +kernel
  have hr1 : ∀ r, smLo 1 ≤ r → r < smLo 1 + smNn 1 → r ∈ [0, 4, 11, 12, 504, 505, 506, 73, 79, 80, 81, 82, 83, 84, 85, 86, 87, 88, 89, 90, 91, 92, 78, 74, 75, 76, 77, 53, 59, 60, 61, 62, 63, 64, 65, 66, 67, 68, 69, 70, 71, 72, 58, 54, 55, 56, 57, 33, 39, 40, 41, 42, 43, 44, 45, 46, 47, 48, 49, 50, 51, 52, 38, 34, 35, 36, 37, 13, 19, 20, 21, 22, 23, 24, 25, 26, 27, 28, 29, 30, 31, 32, 18, 14, 15, 16, 17, 8, 9, 10, 5, 6, 7, 500, 501, 502, 503, 499, 441, 479, 480, 481, 497, 498, 491, 492, 493, 494, 495, 496, 482, 483, 484, 485, 486, 487, 488, 489, 490, 457, 458, 468, 478, 469, 470, 471, 472, 473, 474, 475, 476, 477, 459, 460, 461, 462, 463, 464, 465, 466, 467, 443, 444, 445, 446, 447, 448, 449, 450, 451, 452, 453, 454, 455, 456, 442, 93, 133, 146, 147, 148, 439, 440, 140, 141, 142, 143, 144, 145, 134, 135, 136, 137, 138, 139, 381, 419, 420, 421, 437, 438, 431, 432, 433, 434, 435, 436, 422, 423, 424, 425, 426, 427, 428, 429, 430, 397, 398, 408, 418, 409, 410, 411, 412, 413, 414, 415, 416, 417, 399, 400, 401, 402, 403, 404, 405, 406, 407, 383, 384, 385, 386, 387, 388, 389, 390, 391, 392, 393, 394, 395, 396, 382, 323, 361, 362, 363, 379, 380, 373, 374, 375, 376, 377, 378, 364, 365, 366, 367, 368, 369, 370, 371, 372, 339, 340, 350, 360, 351, 352, 353, 354, 355, 356, 357, 358, 359, 341, 342, 343, 344, 345, 346, 347, 348, 349, 325, 326, 327, 328, 329, 330, 331, 332, 333, 334, 335, 336, 337, 338, 324, 265, 303, 304, 305, 321, 322, 315, 316, 317, 318, 319, 320, 306, 307, 308, 309, 310, 311, 312, 313, 314, 281, 282, 292, 302, 293, 294, 295, 296, 297, 298, 299, 300, 301, 283, 284, 285, 286, 287, 288, 289, 290, 291, 267, 268, 269, 270, 271, 272, 273, 274, 275, 276, 277, 278, 279, 280, 266, 207, 245, 246, 247, 263, 264, 257, 258, 259, 260, 261, 262, 248, 249, 250, 251, 252, 253, 254, 255, 256, 223, 224, 234, 244, 235, 236, 237, 238, 239, 240, 241, 242, 243, 225, 226, 227, 228, 229, 230, 231, 232, 233, 209, 210, 211, 212, 213, 214, 215, 216, 217, 218, 219, 220, 221, 222, 208, 149, 187, 188, 189, 205, 206, 199, 200, 201, 202, 203, 204, 190, 191, 192, 193, 194, 195, 196, 197, 198, 165, 166, 176, 186, 177, 178, 179, 180, 181, 182, 183, 184, 185, 167, 168, 169, 170, 171, 172, 173, 174, 175, 151, 152, 153, 154, 155, 156, 157, 158, 159, 160, 161, 162, 163, 164, 150, 94, 95, 132, 96, 97, 98, 99, 100, 101, 102, 103, 104, 105, 106, 107, 108, 109, 110, 111, 112, 113, 114, 115, 116, 117, 118, 119, 120, 121, 122, 123, 124, 125, 126, 127, 128, 129, 130, 131, 1, 2, 3] := fun r h1 h2 => by have := hm1 (r - smLo 1) (by omega); rw [show smLo 1 + (r - smLo 1) = r by omega] at this; exact this
  have hr2 : ∀ r, smLo 2 ≤ r → r < smLo 2 + smNn 2 → r ∈ [1000, 1001, 1002, 1003, 1004, 1005, 1006, 1007, 1008, 1009, 1010, 1011, 1012, 1013, 1014, 1015, 1016, 1017, 1018, 1019, 1020, 1021, 1022, 1023, 1024, 1025, 1026, 1027, 1028, 1029, 1030, 1031, 1032, 1033, 1034, 1035, 1036, 1037, 1038, 1039, 1040] := fun r h1 h2 => by have := hm2 (r - smLo 2) (by omega); rw [show smLo 2 + (r - smLo 2) = r by omega] at this; exact this
  have hDl := cn_leftD hD
  have hDr := cn_rightD hD
  have hA1 : ∀ q, smA 1 ad11 q → s.heap.size ≤ q := fun q h => by obtain ⟨r, h1, h2, h3⟩ := h; rw [h3]; exact cn_adA hDl (hr1 r h1 h2)
  have hA2 : ∀ q, smA 2 ad12 q → s.heap.size ≤ q := fun q h => by obtain ⟨r, h1, h2, h3⟩ := h; rw [h3]; exact cn_adA hDr (hr2 r h1 h2)
  have hJ1 : smJ 1 ad11 := fun r r' h1 h2 h3 h4 e => cn_pos hDl (hr1 r h1 h2) (hr1 r' h3 h4) e
  have hJ2 : smJ 2 ad12 := fun r r' h1 h2 h3 h4 e => cn_pos hDr (hr2 r h1 h2) (hr2 r' h3 h4) e
  have hdd : ∀ q, smA 1 ad11 q → ¬ smA 2 ad12 q := fun q h g => by obtain ⟨r, h1, h2, h3⟩ := h; obtain ⟨r2, g1, g2, g3⟩ := g; exact cn_dis hD (hr1 r h1 h2) (hr2 r2 g1 g2) (by rw [← h3, ← g3])
  exact law_loop hOps hL C0 hE.1 hJ1 hJ2 hA1 hA2 (fun q h g => hdd q g h) hdd (L + 5) 0 (Nat.zero_le _) (by omega) smM0 smM0 hR0 _ _ (cn_sm (cn_left hP) hm1) (cn_sm (cn_right hP) hm2) hS ls (lv_sub hl [3, 2, 1, 0] rfl)
