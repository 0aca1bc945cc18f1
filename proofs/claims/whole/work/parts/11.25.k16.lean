set_option maxHeartbeats 4000000 in
set_option maxRecDepth 100000 in
theorem k_X12_climbs (l : Launch) (D : va_G) (cA : Nat → ClassId) (adr : Nat → Nat) (hJ : smJ 2 adr) (a0 : Nat) (x1 : Int32) (x2 : Int32) (x3 : Int32) (ha0 : smT 2 a0 12) (M : smM) (M1 : smM) (h : m_X12_climbs a0 x1 x2 x3 M = some M1) : Met l yX12_climbs wsX12_climbs ({ frames := 1, cells := 0, slots := 0, locals := 22 }) (smPc D cA 2 adr M [.ref (adr a0), .int x1, .int x2, .int x3]) (smQv D cA 2 adr M1) 0 0 (smA 2 adr) := by
  refine Met.ofW (cc := cX12_climbs) (maxL := 6) (ret := none) (by decide) rfl ?_
  intro p e s m args below meth c s₁ B hml hv
  obtain ⟨rfl, hE, hP⟩ := hv
  have hx := B.exec
  have hb := B.bytes
  have hr := B.returns
  have hts := atoms_spec (ws := wsX12_climbs) B.pre
  have hown : s.vm.findClass RX12 = some m.cls := findClass_of_methodNamed B.named
  have hlocks := B.notSynchronized
  have hS : va_S (smA 2 adr) s.heap s.heap [] := va_S.rf
  have hP : smP D cA 2 adr M s.heap := hP
  have hl := lv_entry ([.ref (adr a0), .int x1, .int x2, .int x3]) (n := 6) (Nat.le_of_ble_eq_true rfl)
  rw [lg_entry_eq]
  generalize (lg_sl ([.ref (adr a0), .int x1, .int x2, .int x3]) ++ List.replicate (6 - (lg_sl ([.ref (adr a0), .int x1, .int x2, .int x3])).length) Slot.unset).toArray = ls at hl ⊢
  have hl : lv_has ls 6 [(0, .ref (adr a0)), (1, .int x1), (2, .int x2), (3, .int x3)] := hl
  unfold m_X12_climbs at h
  have hin12 : ∀ w ∈ u_ws RX12 TX12 54, w ∈ wsX12_climbs := by decide +kernel
  refine lv_aload_n hx hb dX12_climbs_0 rfl (lv_at hl 0 rfl) ?_
  refine lv_aload_n hx hb dX12_climbs_1 rfl (lv_at hl 0 rfl) ?_
  refine sm_get (ci := 12) (C := RX12) (T := TX12) (N := 54) (v := .ref (adr (a0 + 20))) hx hb hts hin12 hown hE hP ha0 rfl rfl 24 (by decide) (hts (.fieldLink RX12 84 "OrderMoverModel" "form" "[I") (by decide +kernel)) (fun _ h9 => h9) rfl dX12_climbs_2 ?_
  refine lv_iload_n hx hb dX12_climbs_5 rfl (lv_at hl 3 rfl) ?_
  obtain ⟨c6_2222, h⟩ := sm_ck h
  refine sm_iald hx hb hE hP (t12_24 ha0) c6_2222 dX12_climbs_6 ?_
  obtain ⟨v7_2223, hc7_2225, h⟩ := sm_bd h
  refine sm_ci (va_runV (As := [.int (M (a0 + 20) (x3).toNatClampNeg)]) (rest := []) ⟨hx, hb, hml, hown, hts⟩ (k_X12_inverse l D cA adr hJ a0 (M (a0 + 20) (x3).toNatClampNeg) ha0 M v7_2223 hc7_2225) (cwV 1 hts gX12_climbs_X12_inverse rfl rfl rfl (by decide +kernel) ⟨Nat.le_of_ble_eq_true rfl, Nat.le_of_ble_eq_true rfl⟩) ⟨smPc_bl, smRv hE hP ha0 rfl (ci := 12) (q := (RX12, TX12, 54)) rfl, smPc_in [.ref (adr a0), .int (M (a0 + 20) (x3).toNatClampNeg)] hE hP⟩ rfl rfl hl.1 rfl (lv_room (Nat.le_of_ble_eq_true rfl)) dX12_climbs_7 ⟨Nat.zero_le _, Nat.zero_le _⟩) hS (fun H locs hP hS => ?_)
  refine lv_istore (lv' := [(4, .int v7_2223), (0, .ref (adr a0)), (1, .int x1), (2, .int x2), (3, .int x3)]) hx hb dX12_climbs_10 hl (by decide) rfl (fun ls hl => ?_)
  refine lv_aload_n hx hb dX12_climbs_12 rfl (lv_at hl 1 rfl) ?_
  refine sm_get (ci := 12) (C := RX12) (T := TX12) (N := 54) (v := .ref (adr (a0 + 22))) hx hb hts hin12 hown hE hP ha0 rfl rfl 30 (by decide) (hts (.fieldLink RX12 90 "OrderMoverModel" "stairI" "[I") (by decide +kernel)) (fun _ h9 => h9) rfl dX12_climbs_13 ?_
  refine lv_aload_n hx hb dX12_climbs_16 rfl (lv_at hl 1 rfl) ?_
  refine sm_get (ci := 12) (C := RX12) (T := TX12) (N := 54) (v := .int (M a0 29)) hx hb hts hin12 hown hE hP ha0 rfl rfl 29 (by decide) (hts (.fieldLink RX12 220 "OrderMoverModel" "stairs" "I") (by decide +kernel)) (fun _ h9 => h9) rfl dX12_climbs_17 ?_
  refine lv_iload_n hx hb dX12_climbs_20 rfl (lv_at hl 2 rfl) ?_
  obtain ⟨c21_2226, h⟩ := sm_ck h
  refine sm_iast hx hb hE hJ hP hS (t12_30 ha0) c21_2226 dX12_climbs_21 (fun H locs hP hS => ?_)
  obtain ⟨M21_2227, hM, h⟩ := sm_lt h
  rw [← hM] at hP; clear hM
  refine lv_aload_n hx hb dX12_climbs_22 rfl (lv_at hl 1 rfl) ?_
  refine sm_get (ci := 12) (C := RX12) (T := TX12) (N := 54) (v := .ref (adr (a0 + 23))) hx hb hts hin12 hown hE hP ha0 rfl rfl 31 (by decide) (hts (.fieldLink RX12 93 "OrderMoverModel" "stairJ" "[I") (by decide +kernel)) (fun _ h9 => h9) rfl dX12_climbs_23 ?_
  refine lv_aload_n hx hb dX12_climbs_26 rfl (lv_at hl 1 rfl) ?_
  refine sm_get (ci := 12) (C := RX12) (T := TX12) (N := 54) (v := .int (M21_2227 a0 29)) hx hb hts hin12 hown hE hP ha0 rfl rfl 29 (by decide) (hts (.fieldLink RX12 220 "OrderMoverModel" "stairs" "I") (by decide +kernel)) (fun _ h9 => h9) rfl dX12_climbs_27 ?_
  refine lv_iload_n hx hb dX12_climbs_30 rfl (lv_at hl 3 rfl) ?_
  obtain ⟨c31_2228, h⟩ := sm_ck h
  refine sm_iast hx hb hE hJ hP hS (t12_31 ha0) c31_2228 dX12_climbs_31 (fun H locs hP hS => ?_)
  obtain ⟨M31_2229, hM, h⟩ := sm_lt h
  rw [← hM] at hP; clear hM
  refine lv_aload_n hx hb dX12_climbs_32 rfl (lv_at hl 1 rfl) ?_
  refine sm_get (ci := 12) (C := RX12) (T := TX12) (N := 54) (v := .ref (adr (a0 + 25))) hx hb hts hin12 hown hE hP ha0 rfl rfl 33 (by decide) (hts (.fieldLink RX12 99 "OrderMoverModel" "pivots" "[I") (by decide +kernel)) (fun _ h9 => h9) rfl dX12_climbs_33 ?_
  refine lv_aload_n hx hb dX12_climbs_36 rfl (lv_at hl 1 rfl) ?_
  refine sm_get (ci := 12) (C := RX12) (T := TX12) (N := 54) (v := .int (M31_2229 a0 29)) hx hb hts hin12 hown hE hP ha0 rfl rfl 29 (by decide) (hts (.fieldLink RX12 220 "OrderMoverModel" "stairs" "I") (by decide +kernel)) (fun _ h9 => h9) rfl dX12_climbs_37 ?_
  refine lv_iload_n hx hb dX12_climbs_40 rfl (lv_at hl 4 rfl) ?_
  obtain ⟨c41_2230, h⟩ := sm_ck h
  refine sm_iast hx hb hE hJ hP hS (t12_33 ha0) c41_2230 dX12_climbs_41 (fun H locs hP hS => ?_)
  obtain ⟨M41_2231, hM, h⟩ := sm_lt h
  rw [← hM] at hP; clear hM
  refine lv_aload_n hx hb dX12_climbs_42 rfl (lv_at hl 1 rfl) ?_
  refine sm_get (ci := 12) (C := RX12) (T := TX12) (N := 54) (v := .ref (adr (a0 + 31))) hx hb hts hin12 hown hE hP ha0 rfl rfl 41 (by decide) (hts (.fieldLink RX12 117 "OrderMoverModel" "made" "[I") (by decide +kernel)) (fun _ h9 => h9) rfl dX12_climbs_43 ?_
  refine lv_aload_n hx hb dX12_climbs_46 rfl (lv_at hl 1 rfl) ?_
  refine sm_get (ci := 12) (C := RX12) (T := TX12) (N := 54) (v := .int (M41_2231 a0 29)) hx hb hts hin12 hown hE hP ha0 rfl rfl 29 (by decide) (hts (.fieldLink RX12 220 "OrderMoverModel" "stairs" "I") (by decide +kernel)) (fun _ h9 => h9) rfl dX12_climbs_47 ?_
  refine lv_iconst (v := (1 : Int32)) hx hb dX12_climbs_50 (by decide) ?_
  obtain ⟨c51_2232, h⟩ := sm_ck h
  refine sm_iast hx hb hE hJ hP hS (t12_41 ha0) c51_2232 dX12_climbs_51 (fun H locs hP hS => ?_)
  obtain ⟨M51_2233, hM, h⟩ := sm_lt h
  rw [← hM] at hP; clear hM
  refine lv_iconst (v := (0 : Int32)) hx hb dX12_climbs_52 (by decide) ?_
  refine lv_istore (lv' := [(5, .int (0 : Int32)), (4, .int v7_2223), (0, .ref (adr a0)), (1, .int x1), (2, .int x2), (3, .int x3)]) hx hb dX12_climbs_53 hl (by decide) rfl (fun ls hl => ?_)
  refine sm_lp (b := fun rc q => m_X12_climbs_b55 a0 x1 x2 v7_2223 rc q.1 q.2) (P := fun (q : Int32 × smM) H locs ls => smP D cA 2 adr q.2 H ∧ va_S (smA 2 adr) s.heap H locs ∧ lv_has ls 6 [(0, .ref (adr a0)), (1, .int x1), (2, .int x2), (4, .int v7_2223), (5, .int q.1)]) (pc := 55) ?_ _ _ _ _ _ h ⟨hP, hS, lv_sub hl [2, 3, 4, 1, 0] rfl⟩
  intro rc55_2236 ih55_2237 q H locs ls h hI
  obtain ⟨x5_55_2234, M55_2235⟩ := q
  obtain ⟨hP, hS, hl⟩ := hI
  have hP : smP D cA 2 adr M55_2235 H := hP
  have hl : lv_has ls 6 [(0, .ref (adr a0)), (1, .int x1), (2, .int x2), (4, .int v7_2223), (5, .int x5_55_2234)] := hl
  have h : m_X12_climbs_b55 a0 x1 x2 v7_2223 rc55_2236 x5_55_2234 M55_2235 = some _ := h
  unfold m_X12_climbs_b55 at h
  refine lv_iload hx hb dX12_climbs_55 (lv_at hl 4 rfl) ?_
  refine lv_bipush (v := (9 : Int32)) hx hb dX12_climbs_57 (by decide) ?_
  refine lv_icmp_ge (tgt := 131) hx hb dX12_climbs_59 (by decide) (fun c59_2238 => ?_) (fun c59_2238 => ?_)
  · rw [if_pos c59_2238] at h
    refine lv_aload_n hx hb dX12_climbs_131 rfl (lv_at hl 0 rfl) ?_
    refine lv_dup hx hb dX12_climbs_132 rfl ?_
    refine sm_get (ci := 12) (C := RX12) (T := TX12) (N := 54) (v := .int (M55_2235 a0 29)) hx hb hts hin12 hown hE hP ha0 rfl rfl 29 (by decide) (hts (.fieldLink RX12 220 "OrderMoverModel" "stairs" "I") (by decide +kernel)) (fun _ h9 => h9) rfl dX12_climbs_133 ?_
    refine lv_iconst (v := (1 : Int32)) hx hb dX12_climbs_136 (by decide) ?_
    refine lv_iadd hx hb dX12_climbs_137 ?_
    refine sm_put (ci := 12) (C := RX12) (T := TX12) (N := 54) (ty := .int) hx hb hts hin12 tyX12 tyX12_ok nmX12 hown hE hJ hP hS ha0 rfl rfl 29 (by decide) (hts (.fieldLink RX12 220 "OrderMoverModel" "stairs" "I") (by decide +kernel)) (fun _ h9 => h9) rfl (by decide +kernel) rfl rfl (Nat.le_of_ble_eq_true rfl) rfl dX12_climbs_138 (fun H locs hP hS => ?_)
    obtain ⟨M138_2239, hM, h⟩ := sm_lt h
    rw [← hM] at hP; clear hM
    refine lv_aload_n hx hb dX12_climbs_141 rfl (lv_at hl 0 rfl) ?_
    refine sm_get (ci := 12) (C := RX12) (T := TX12) (N := 54) (v := .ref (adr (a0 + 29))) hx hb hts hin12 hown hE hP ha0 rfl rfl 39 (by decide) (hts (.fieldLink RX12 111 "OrderMoverModel" "waitsI" "[I") (by decide +kernel)) (fun _ h9 => h9) rfl dX12_climbs_142 ?_
    refine lv_aload_n hx hb dX12_climbs_145 rfl (lv_at hl 0 rfl) ?_
    refine sm_get (ci := 12) (C := RX12) (T := TX12) (N := 54) (v := .int (M138_2239 a0 38)) hx hb hts hin12 hown hE hP ha0 rfl rfl 38 (by decide) (hts (.fieldLink RX12 227 "OrderMoverModel" "waiting" "I") (by decide +kernel)) (fun _ h9 => h9) rfl dX12_climbs_146 ?_
    refine lv_iload_n hx hb dX12_climbs_149 rfl (lv_at hl 1 rfl) ?_
    refine lv_iconst (v := (1 : Int32)) hx hb dX12_climbs_150 (by decide) ?_
    refine lv_iadd hx hb dX12_climbs_151 ?_
    obtain ⟨c152_2240, h⟩ := sm_ck h
    refine sm_iast hx hb hE hJ hP hS (t12_39 ha0) c152_2240 dX12_climbs_152 (fun H locs hP hS => ?_)
    obtain ⟨M152_2241, hM, h⟩ := sm_lt h
    rw [← hM] at hP; clear hM
    refine lv_aload_n hx hb dX12_climbs_153 rfl (lv_at hl 0 rfl) ?_
    refine sm_get (ci := 12) (C := RX12) (T := TX12) (N := 54) (v := .ref (adr (a0 + 30))) hx hb hts hin12 hown hE hP ha0 rfl rfl 40 (by decide) (hts (.fieldLink RX12 114 "OrderMoverModel" "waitsJ" "[I") (by decide +kernel)) (fun _ h9 => h9) rfl dX12_climbs_154 ?_
    refine lv_aload_n hx hb dX12_climbs_157 rfl (lv_at hl 0 rfl) ?_
    refine sm_get (ci := 12) (C := RX12) (T := TX12) (N := 54) (v := .int (M152_2241 a0 38)) hx hb hts hin12 hown hE hP ha0 rfl rfl 38 (by decide) (hts (.fieldLink RX12 227 "OrderMoverModel" "waiting" "I") (by decide +kernel)) (fun _ h9 => h9) rfl dX12_climbs_158 ?_
    refine lv_iload_n hx hb dX12_climbs_161 rfl (lv_at hl 2 rfl) ?_
    obtain ⟨c162_2242, h⟩ := sm_ck h
    refine sm_iast hx hb hE hJ hP hS (t12_40 ha0) c162_2242 dX12_climbs_162 (fun H locs hP hS => ?_)
    obtain ⟨M162_2243, hM, h⟩ := sm_lt h
    rw [← hM] at hP; clear hM
    refine lv_aload_n hx hb dX12_climbs_163 rfl (lv_at hl 0 rfl) ?_
    refine sm_get (ci := 12) (C := RX12) (T := TX12) (N := 54) (v := .ref (adr (a0 + 29))) hx hb hts hin12 hown hE hP ha0 rfl rfl 39 (by decide) (hts (.fieldLink RX12 111 "OrderMoverModel" "waitsI" "[I") (by decide +kernel)) (fun _ h9 => h9) rfl dX12_climbs_164 ?_
    refine lv_aload_n hx hb dX12_climbs_167 rfl (lv_at hl 0 rfl) ?_
    refine sm_get (ci := 12) (C := RX12) (T := TX12) (N := 54) (v := .int (M162_2243 a0 38)) hx hb hts hin12 hown hE hP ha0 rfl rfl 38 (by decide) (hts (.fieldLink RX12 227 "OrderMoverModel" "waiting" "I") (by decide +kernel)) (fun _ h9 => h9) rfl dX12_climbs_168 ?_
    refine lv_iconst (v := (1 : Int32)) hx hb dX12_climbs_171 (by decide) ?_
    refine lv_iadd hx hb dX12_climbs_172 ?_
    refine lv_iload_n hx hb dX12_climbs_173 rfl (lv_at hl 1 rfl) ?_
    obtain ⟨c174_2244, h⟩ := sm_ck h
    refine sm_iast hx hb hE hJ hP hS (t12_39 ha0) c174_2244 dX12_climbs_174 (fun H locs hP hS => ?_)
    obtain ⟨M174_2245, hM, h⟩ := sm_lt h
    rw [← hM] at hP; clear hM
    refine lv_aload_n hx hb dX12_climbs_175 rfl (lv_at hl 0 rfl) ?_
    refine sm_get (ci := 12) (C := RX12) (T := TX12) (N := 54) (v := .ref (adr (a0 + 30))) hx hb hts hin12 hown hE hP ha0 rfl rfl 40 (by decide) (hts (.fieldLink RX12 114 "OrderMoverModel" "waitsJ" "[I") (by decide +kernel)) (fun _ h9 => h9) rfl dX12_climbs_176 ?_
    refine lv_aload_n hx hb dX12_climbs_179 rfl (lv_at hl 0 rfl) ?_
    refine sm_get (ci := 12) (C := RX12) (T := TX12) (N := 54) (v := .int (M174_2245 a0 38)) hx hb hts hin12 hown hE hP ha0 rfl rfl 38 (by decide) (hts (.fieldLink RX12 227 "OrderMoverModel" "waiting" "I") (by decide +kernel)) (fun _ h9 => h9) rfl dX12_climbs_180 ?_
    refine lv_iconst (v := (1 : Int32)) hx hb dX12_climbs_183 (by decide) ?_
    refine lv_iadd hx hb dX12_climbs_184 ?_
    refine lv_iload_n hx hb dX12_climbs_185 rfl (lv_at hl 2 rfl) ?_
    refine lv_iconst (v := (1 : Int32)) hx hb dX12_climbs_186 (by decide) ?_
    refine lv_iadd hx hb dX12_climbs_187 ?_
    obtain ⟨c188_2246, h⟩ := sm_ck h
    refine sm_iast hx hb hE hJ hP hS (t12_40 ha0) c188_2246 dX12_climbs_188 (fun H locs hP hS => ?_)
    obtain ⟨M188_2247, hM, h⟩ := sm_lt h
    rw [← hM] at hP; clear hM
    refine lv_aload_n hx hb dX12_climbs_189 rfl (lv_at hl 0 rfl) ?_
    refine lv_dup hx hb dX12_climbs_190 rfl ?_
    refine sm_get (ci := 12) (C := RX12) (T := TX12) (N := 54) (v := .int (M188_2247 a0 38)) hx hb hts hin12 hown hE hP ha0 rfl rfl 38 (by decide) (hts (.fieldLink RX12 227 "OrderMoverModel" "waiting" "I") (by decide +kernel)) (fun _ h9 => h9) rfl dX12_climbs_191 ?_
    refine lv_iconst (v := (2 : Int32)) hx hb dX12_climbs_194 (by decide) ?_
    refine lv_iadd hx hb dX12_climbs_195 ?_
    refine sm_put (ci := 12) (C := RX12) (T := TX12) (N := 54) (ty := .int) hx hb hts hin12 tyX12 tyX12_ok nmX12 hown hE hJ hP hS ha0 rfl rfl 38 (by decide) (hts (.fieldLink RX12 227 "OrderMoverModel" "waiting" "I") (by decide +kernel)) (fun _ h9 => h9) rfl (by decide +kernel) rfl rfl (Nat.le_of_ble_eq_true rfl) rfl dX12_climbs_196 (fun H locs hP hS => ?_)
    obtain ⟨M196_2248, hM, h⟩ := sm_lt h
    rw [← hM] at hP; clear hM
    cases h
    exact sm_vret hx hb hr hlocks hP hS dX12_climbs_199
  · rw [if_neg c59_2238] at h
    refine lv_aload_n hx hb dX12_climbs_62 rfl (lv_at hl 0 rfl) ?_
    refine sm_get (ci := 12) (C := RX12) (T := TX12) (N := 54) (v := .ref (adr (a0 + 24))) hx hb hts hin12 hown hE hP ha0 rfl rfl 32 (by decide) (hts (.fieldLink RX12 96 "OrderMoverModel" "rows" "[I") (by decide +kernel)) (fun _ h9 => h9) rfl dX12_climbs_63 ?_
    refine lv_bipush (v := (18 : Int32)) hx hb dX12_climbs_66 (by decide) ?_
    refine lv_aload_n hx hb dX12_climbs_68 rfl (lv_at hl 0 rfl) ?_
    refine sm_get (ci := 12) (C := RX12) (T := TX12) (N := 54) (v := .int (M55_2235 a0 29)) hx hb hts hin12 hown hE hP ha0 rfl rfl 29 (by decide) (hts (.fieldLink RX12 220 "OrderMoverModel" "stairs" "I") (by decide +kernel)) (fun _ h9 => h9) rfl dX12_climbs_69 ?_
    refine lv_imul hx hb dX12_climbs_72 ?_
    refine lv_iload hx hb dX12_climbs_73 (lv_at hl 4 rfl) ?_
    refine lv_iadd hx hb dX12_climbs_75 ?_
    refine lv_aload_n hx hb dX12_climbs_76 rfl (lv_at hl 0 rfl) ?_
    refine sm_get (ci := 12) (C := RX12) (T := TX12) (N := 54) (v := .ref (adr (a0 + 20))) hx hb hts hin12 hown hE hP ha0 rfl rfl 24 (by decide) (hts (.fieldLink RX12 84 "OrderMoverModel" "form" "[I") (by decide +kernel)) (fun _ h9 => h9) rfl dX12_climbs_77 ?_
    refine lv_iload hx hb dX12_climbs_80 (lv_at hl 4 rfl) ?_
    obtain ⟨c82_2249, h⟩ := sm_ck h
    refine sm_iald hx hb hE hP (t12_24 ha0) c82_2249 dX12_climbs_82 ?_
    refine lv_iload hx hb dX12_climbs_83 (lv_at hl 3 rfl) ?_
    refine lv_imul hx hb dX12_climbs_85 ?_
    refine lv_aload_n hx hb dX12_climbs_86 rfl (lv_at hl 0 rfl) ?_
    refine sm_get (ci := 12) (C := RX12) (T := TX12) (N := 54) (v := .int (M55_2235 a0 0)) hx hb hts hin12 hown hE hP ha0 rfl rfl 0 (by decide) (hts (.fieldLink RX12 7 "OrderMoverModel" "p" "I") (by decide +kernel)) (fun _ h9 => h9) rfl dX12_climbs_87 ?_
    obtain ⟨c90_2250, h⟩ := sm_ck h
    refine lv_irem hx hb dX12_climbs_90 c90_2250 ?_
    obtain ⟨c91_2251, h⟩ := sm_ck h
    refine sm_iast hx hb hE hJ hP hS (t12_32 ha0) c91_2251 dX12_climbs_91 (fun H locs hP hS => ?_)
    obtain ⟨M91_2252, hM, h⟩ := sm_lt h
    rw [← hM] at hP; clear hM
    refine lv_aload_n hx hb dX12_climbs_92 rfl (lv_at hl 0 rfl) ?_
    refine sm_get (ci := 12) (C := RX12) (T := TX12) (N := 54) (v := .ref (adr (a0 + 24))) hx hb hts hin12 hown hE hP ha0 rfl rfl 32 (by decide) (hts (.fieldLink RX12 96 "OrderMoverModel" "rows" "[I") (by decide +kernel)) (fun _ h9 => h9) rfl dX12_climbs_93 ?_
    refine lv_bipush (v := (18 : Int32)) hx hb dX12_climbs_96 (by decide) ?_
    refine lv_aload_n hx hb dX12_climbs_98 rfl (lv_at hl 0 rfl) ?_
    refine sm_get (ci := 12) (C := RX12) (T := TX12) (N := 54) (v := .int (M91_2252 a0 29)) hx hb hts hin12 hown hE hP ha0 rfl rfl 29 (by decide) (hts (.fieldLink RX12 220 "OrderMoverModel" "stairs" "I") (by decide +kernel)) (fun _ h9 => h9) rfl dX12_climbs_99 ?_
    refine lv_imul hx hb dX12_climbs_102 ?_
    refine lv_bipush (v := (9 : Int32)) hx hb dX12_climbs_103 (by decide) ?_
    refine lv_iadd hx hb dX12_climbs_105 ?_
    refine lv_iload hx hb dX12_climbs_106 (lv_at hl 4 rfl) ?_
    refine lv_iadd hx hb dX12_climbs_108 ?_
    refine lv_aload_n hx hb dX12_climbs_109 rfl (lv_at hl 0 rfl) ?_
    refine sm_get (ci := 12) (C := RX12) (T := TX12) (N := 54) (v := .ref (adr (a0 + 31))) hx hb hts hin12 hown hE hP ha0 rfl rfl 41 (by decide) (hts (.fieldLink RX12 117 "OrderMoverModel" "made" "[I") (by decide +kernel)) (fun _ h9 => h9) rfl dX12_climbs_110 ?_
    refine lv_iload hx hb dX12_climbs_113 (lv_at hl 4 rfl) ?_
    obtain ⟨c115_2253, h⟩ := sm_ck h
    refine sm_iald hx hb hE hP (t12_41 ha0) c115_2253 dX12_climbs_115 ?_
    refine lv_iload hx hb dX12_climbs_116 (lv_at hl 3 rfl) ?_
    refine lv_imul hx hb dX12_climbs_118 ?_
    refine lv_aload_n hx hb dX12_climbs_119 rfl (lv_at hl 0 rfl) ?_
    refine sm_get (ci := 12) (C := RX12) (T := TX12) (N := 54) (v := .int (M91_2252 a0 0)) hx hb hts hin12 hown hE hP ha0 rfl rfl 0 (by decide) (hts (.fieldLink RX12 7 "OrderMoverModel" "p" "I") (by decide +kernel)) (fun _ h9 => h9) rfl dX12_climbs_120 ?_
    obtain ⟨c123_2254, h⟩ := sm_ck h
    refine lv_irem hx hb dX12_climbs_123 c123_2254 ?_
    obtain ⟨c124_2255, h⟩ := sm_ck h
    refine sm_iast hx hb hE hJ hP hS (t12_32 ha0) c124_2255 dX12_climbs_124 (fun H locs hP hS => ?_)
    obtain ⟨M124_2256, hM, h⟩ := sm_lt h
    rw [← hM] at hP; clear hM
    refine lv_iinc (v := (x5_55_2234 + (1 : Int32))) (lv' := [(5, .int (x5_55_2234 + (1 : Int32))), (0, .ref (adr a0)), (1, .int x1), (2, .int x2), (4, .int v7_2223)]) hx hb dX12_climbs_125 hl (k := 4) rfl (congrArg (fun z => x5_55_2234 + z) (by decide)) (by decide) rfl (fun ls hl => ?_)
    refine lv_goto (tgt := 55) hx hb dX12_climbs_128 (by decide) ?_
    exact ih55_2237 ((x5_55_2234 + (1 : Int32)), M124_2256) _ _ _ h ⟨hP, hS, lv_sub hl [1, 2, 3, 4, 0] rfl⟩
set_option maxHeartbeats 4000000 in
set_option maxRecDepth 100000 in
theorem k_X12_isMultiple (l : Launch) (D : va_G) (cA : Nat → ClassId) (adr : Nat → Nat) (hJ : smJ 2 adr) (a0 : Nat) (x1 : Int32) (x2 : Int32) (ha0 : smT 2 a0 12) (M : smM) (v1 : Int32) (h : m_X12_isMultiple a0 x1 x2 M = some v1) : Met l yX12_isMultiple wsX12_isMultiple ({ frames := 0, cells := 0, slots := 0, locals := 0 }) (smPc D cA 2 adr M [.ref (adr a0), .int x1, .int x2]) (smQi D cA 2 adr M v1) 0 0 (smA 2 adr) := by
  refine Met.ofW (cc := cX12_isMultiple) (maxL := 4) (ret := (some .boolean)) (by decide) rfl ?_
  intro p e s m args below meth c s₁ B hml hv
  obtain ⟨rfl, hE, hP⟩ := hv
  have hx := B.exec
  have hb := B.bytes
  have hr := B.returns
  have hts := atoms_spec (ws := wsX12_isMultiple) B.pre
  have hown : s.vm.findClass RX12 = some m.cls := findClass_of_methodNamed B.named
  have hlocks := B.notSynchronized
  have hS : va_S (smA 2 adr) s.heap s.heap [] := va_S.rf
  have hP : smP D cA 2 adr M s.heap := hP
  have hl := lv_entry ([.ref (adr a0), .int x1, .int x2]) (n := 4) (Nat.le_of_ble_eq_true rfl)
  rw [lg_entry_eq]
  generalize (lg_sl ([.ref (adr a0), .int x1, .int x2]) ++ List.replicate (4 - (lg_sl ([.ref (adr a0), .int x1, .int x2])).length) Slot.unset).toArray = ls at hl ⊢
  have hl : lv_has ls 4 [(0, .ref (adr a0)), (1, .int x1), (2, .int x2)] := hl
  unfold m_X12_isMultiple at h
  have hin12 : ∀ w ∈ u_ws RX12 TX12 54, w ∈ wsX12_isMultiple := by decide +kernel
  refine lv_iconst (v := (0 : Int32)) hx hb dX12_isMultiple_0 (by decide) ?_
  refine lv_istore_n (lv' := [(3, .int (0 : Int32)), (0, .ref (adr a0)), (1, .int x1), (2, .int x2)]) hx hb dX12_isMultiple_1 rfl hl (by decide) rfl (fun ls hl => ?_)
  refine sm_lp (b := fun rc q => m_X12_isMultiple_b2 a0 x1 x2 M rc q) (P := fun (q : Int32) H locs ls => smP D cA 2 adr M H ∧ va_S (smA 2 adr) s.heap H locs ∧ lv_has ls 4 [(0, .ref (adr a0)), (1, .int x1), (2, .int x2), (3, .int q)]) (pc := 2) ?_ _ _ _ _ _ h ⟨hP, hS, lv_sub hl [1, 2, 3, 0] rfl⟩
  intro rc2_2258 ih2_2259 q H locs ls h hI
  obtain ⟨x3_2_2257, hq⟩ : ∃ y, y = q := ⟨_, rfl⟩; subst hq
  obtain ⟨hP, hS, hl⟩ := hI
  have hP : smP D cA 2 adr M H := hP
  have hl : lv_has ls 4 [(0, .ref (adr a0)), (1, .int x1), (2, .int x2), (3, .int x3_2_2257)] := hl
  have h : m_X12_isMultiple_b2 a0 x1 x2 M rc2_2258 x3_2_2257 = some _ := h
  unfold m_X12_isMultiple_b2 at h
  refine lv_iload_n hx hb dX12_isMultiple_2 rfl (lv_at hl 3 rfl) ?_
  refine lv_aload_n hx hb dX12_isMultiple_3 rfl (lv_at hl 0 rfl) ?_
  refine sm_get (ci := 12) (C := RX12) (T := TX12) (N := 54) (v := .int (M a0 34)) hx hb hts hin12 hown hE hP ha0 rfl rfl 34 (by decide) (hts (.fieldLink RX12 230 "OrderMoverModel" "members" "I") (by decide +kernel)) (fun _ h9 => h9) rfl dX12_isMultiple_4 ?_
  refine lv_icmp_ge (tgt := 38) hx hb dX12_isMultiple_7 (by decide) (fun c7_2260 => ?_) (fun c7_2260 => ?_)
  · rw [if_pos c7_2260] at h
    refine lv_iconst (v := (0 : Int32)) hx hb dX12_isMultiple_38 (by decide) ?_
    cases h
    exact sm_zret (by first | rfl | decide) hx hb hr hlocks hP hS dX12_isMultiple_39
  · rw [if_neg c7_2260] at h
    refine lv_iload_n hx hb dX12_isMultiple_10 rfl (lv_at hl 1 rfl) ?_
    refine lv_aload_n hx hb dX12_isMultiple_11 rfl (lv_at hl 0 rfl) ?_
    refine sm_get (ci := 12) (C := RX12) (T := TX12) (N := 54) (v := .ref (adr (a0 + 26))) hx hb hts hin12 hown hE hP ha0 rfl rfl 35 (by decide) (hts (.fieldLink RX12 102 "OrderMoverModel" "memberI" "[I") (by decide +kernel)) (fun _ h9 => h9) rfl dX12_isMultiple_12 ?_
    refine lv_iload_n hx hb dX12_isMultiple_15 rfl (lv_at hl 3 rfl) ?_
    obtain ⟨c16_2261, h⟩ := sm_ck h
    refine sm_iald hx hb hE hP (t12_35 ha0) c16_2261 dX12_isMultiple_16 ?_
    refine lv_icmp_lt (tgt := 32) hx hb dX12_isMultiple_17 (by decide) (fun c17_2262 => ?_) (fun c17_2262 => ?_)
    · rw [if_pos c17_2262] at h
      refine lv_iinc (v := (x3_2_2257 + (1 : Int32))) (lv' := [(3, .int (x3_2_2257 + (1 : Int32))), (0, .ref (adr a0)), (1, .int x1), (2, .int x2)]) hx hb dX12_isMultiple_32 hl (k := 3) rfl (congrArg (fun z => x3_2_2257 + z) (by decide)) (by decide) rfl (fun ls hl => ?_)
      refine lv_goto (tgt := 2) hx hb dX12_isMultiple_35 (by decide) ?_
      exact ih2_2259 (x3_2_2257 + (1 : Int32)) _ _ _ h ⟨hP, hS, lv_sub hl [1, 2, 3, 0] rfl⟩
    · rw [if_neg c17_2262] at h
      refine lv_iload_n hx hb dX12_isMultiple_20 rfl (lv_at hl 2 rfl) ?_
      refine lv_aload_n hx hb dX12_isMultiple_21 rfl (lv_at hl 0 rfl) ?_
      refine sm_get (ci := 12) (C := RX12) (T := TX12) (N := 54) (v := .ref (adr (a0 + 27))) hx hb hts hin12 hown hE hP ha0 rfl rfl 36 (by decide) (hts (.fieldLink RX12 105 "OrderMoverModel" "memberJ" "[I") (by decide +kernel)) (fun _ h9 => h9) rfl dX12_isMultiple_22 ?_
      refine lv_iload_n hx hb dX12_isMultiple_25 rfl (lv_at hl 3 rfl) ?_
      obtain ⟨c26_2263, h⟩ := sm_ck h
      refine sm_iald hx hb hE hP (t12_36 ha0) c26_2263 dX12_isMultiple_26 ?_
      refine lv_icmp_lt (tgt := 32) hx hb dX12_isMultiple_27 (by decide) (fun c27_2264 => ?_) (fun c27_2264 => ?_)
      · rw [if_pos c27_2264] at h
        refine lv_iinc (v := (x3_2_2257 + (1 : Int32))) (lv' := [(3, .int (x3_2_2257 + (1 : Int32))), (0, .ref (adr a0)), (1, .int x1), (2, .int x2)]) hx hb dX12_isMultiple_32 hl (k := 3) rfl (congrArg (fun z => x3_2_2257 + z) (by decide)) (by decide) rfl (fun ls hl => ?_)
        refine lv_goto (tgt := 2) hx hb dX12_isMultiple_35 (by decide) ?_
        exact ih2_2259 (x3_2_2257 + (1 : Int32)) _ _ _ h ⟨hP, hS, lv_sub hl [1, 2, 3, 0] rfl⟩
      · rw [if_neg c27_2264] at h
        refine lv_iconst (v := (1 : Int32)) hx hb dX12_isMultiple_30 (by decide) ?_
        cases h
        exact sm_zret (by first | rfl | decide) hx hb hr hlocks hP hS dX12_isMultiple_31
set_option maxHeartbeats 4000000 in
set_option maxRecDepth 100000 in
theorem k_X12_isStair (l : Launch) (D : va_G) (cA : Nat → ClassId) (adr : Nat → Nat) (hJ : smJ 2 adr) (a0 : Nat) (x1 : Int32) (x2 : Int32) (ha0 : smT 2 a0 12) (M : smM) (v1 : Int32) (h : m_X12_isStair a0 x1 x2 M = some v1) : Met l yX12_isStair wsX12_isStair ({ frames := 0, cells := 0, slots := 0, locals := 0 }) (smPc D cA 2 adr M [.ref (adr a0), .int x1, .int x2]) (smQi D cA 2 adr M v1) 0 0 (smA 2 adr) := by
  refine Met.ofW (cc := cX12_isStair) (maxL := 4) (ret := (some .boolean)) (by decide) rfl ?_
  intro p e s m args below meth c s₁ B hml hv
  obtain ⟨rfl, hE, hP⟩ := hv
  have hx := B.exec
  have hb := B.bytes
  have hr := B.returns
  have hts := atoms_spec (ws := wsX12_isStair) B.pre
  have hown : s.vm.findClass RX12 = some m.cls := findClass_of_methodNamed B.named
  have hlocks := B.notSynchronized
  have hS : va_S (smA 2 adr) s.heap s.heap [] := va_S.rf
  have hP : smP D cA 2 adr M s.heap := hP
  have hl := lv_entry ([.ref (adr a0), .int x1, .int x2]) (n := 4) (Nat.le_of_ble_eq_true rfl)
  rw [lg_entry_eq]
  generalize (lg_sl ([.ref (adr a0), .int x1, .int x2]) ++ List.replicate (4 - (lg_sl ([.ref (adr a0), .int x1, .int x2])).length) Slot.unset).toArray = ls at hl ⊢
  have hl : lv_has ls 4 [(0, .ref (adr a0)), (1, .int x1), (2, .int x2)] := hl
  unfold m_X12_isStair at h
  have hin12 : ∀ w ∈ u_ws RX12 TX12 54, w ∈ wsX12_isStair := by decide +kernel
  refine lv_iconst (v := (0 : Int32)) hx hb dX12_isStair_0 (by decide) ?_
  refine lv_istore_n (lv' := [(3, .int (0 : Int32)), (0, .ref (adr a0)), (1, .int x1), (2, .int x2)]) hx hb dX12_isStair_1 rfl hl (by decide) rfl (fun ls hl => ?_)
  refine sm_lp (b := fun rc q => m_X12_isStair_b2 a0 x1 x2 M rc q) (P := fun (q : Int32) H locs ls => smP D cA 2 adr M H ∧ va_S (smA 2 adr) s.heap H locs ∧ lv_has ls 4 [(0, .ref (adr a0)), (1, .int x1), (2, .int x2), (3, .int q)]) (pc := 2) ?_ _ _ _ _ _ h ⟨hP, hS, lv_sub hl [1, 2, 3, 0] rfl⟩
  intro rc2_2266 ih2_2267 q H locs ls h hI
  obtain ⟨x3_2_2265, hq⟩ : ∃ y, y = q := ⟨_, rfl⟩; subst hq
  obtain ⟨hP, hS, hl⟩ := hI
  have hP : smP D cA 2 adr M H := hP
  have hl : lv_has ls 4 [(0, .ref (adr a0)), (1, .int x1), (2, .int x2), (3, .int x3_2_2265)] := hl
  have h : m_X12_isStair_b2 a0 x1 x2 M rc2_2266 x3_2_2265 = some _ := h
  unfold m_X12_isStair_b2 at h
  refine lv_iload_n hx hb dX12_isStair_2 rfl (lv_at hl 3 rfl) ?_
  refine lv_aload_n hx hb dX12_isStair_3 rfl (lv_at hl 0 rfl) ?_
  refine sm_get (ci := 12) (C := RX12) (T := TX12) (N := 54) (v := .int (M a0 29)) hx hb hts hin12 hown hE hP ha0 rfl rfl 29 (by decide) (hts (.fieldLink RX12 220 "OrderMoverModel" "stairs" "I") (by decide +kernel)) (fun _ h9 => h9) rfl dX12_isStair_4 ?_
  refine lv_icmp_ge (tgt := 38) hx hb dX12_isStair_7 (by decide) (fun c7_2268 => ?_) (fun c7_2268 => ?_)
  · rw [if_pos c7_2268] at h
    refine lv_iconst (v := (0 : Int32)) hx hb dX12_isStair_38 (by decide) ?_
    cases h
    exact sm_zret (by first | rfl | decide) hx hb hr hlocks hP hS dX12_isStair_39
  · rw [if_neg c7_2268] at h
    refine lv_aload_n hx hb dX12_isStair_10 rfl (lv_at hl 0 rfl) ?_
    refine sm_get (ci := 12) (C := RX12) (T := TX12) (N := 54) (v := .ref (adr (a0 + 22))) hx hb hts hin12 hown hE hP ha0 rfl rfl 30 (by decide) (hts (.fieldLink RX12 90 "OrderMoverModel" "stairI" "[I") (by decide +kernel)) (fun _ h9 => h9) rfl dX12_isStair_11 ?_
    refine lv_iload_n hx hb dX12_isStair_14 rfl (lv_at hl 3 rfl) ?_
    obtain ⟨c15_2269, h⟩ := sm_ck h
    refine sm_iald hx hb hE hP (t12_30 ha0) c15_2269 dX12_isStair_15 ?_
    refine lv_iload_n hx hb dX12_isStair_16 rfl (lv_at hl 1 rfl) ?_
    refine lv_icmp_ne (tgt := 32) hx hb dX12_isStair_17 (by decide) (fun c17_2270 => ?_) (fun c17_2270 => ?_)
    · rw [if_neg c17_2270] at h
      refine lv_iinc (v := (x3_2_2265 + (1 : Int32))) (lv' := [(3, .int (x3_2_2265 + (1 : Int32))), (0, .ref (adr a0)), (1, .int x1), (2, .int x2)]) hx hb dX12_isStair_32 hl (k := 3) rfl (congrArg (fun z => x3_2_2265 + z) (by decide)) (by decide) rfl (fun ls hl => ?_)
      refine lv_goto (tgt := 2) hx hb dX12_isStair_35 (by decide) ?_
      exact ih2_2267 (x3_2_2265 + (1 : Int32)) _ _ _ h ⟨hP, hS, lv_sub hl [1, 2, 3, 0] rfl⟩
    · rw [if_pos c17_2270] at h
      refine lv_aload_n hx hb dX12_isStair_20 rfl (lv_at hl 0 rfl) ?_
      refine sm_get (ci := 12) (C := RX12) (T := TX12) (N := 54) (v := .ref (adr (a0 + 23))) hx hb hts hin12 hown hE hP ha0 rfl rfl 31 (by decide) (hts (.fieldLink RX12 93 "OrderMoverModel" "stairJ" "[I") (by decide +kernel)) (fun _ h9 => h9) rfl dX12_isStair_21 ?_
      refine lv_iload_n hx hb dX12_isStair_24 rfl (lv_at hl 3 rfl) ?_
      obtain ⟨c25_2271, h⟩ := sm_ck h
      refine sm_iald hx hb hE hP (t12_31 ha0) c25_2271 dX12_isStair_25 ?_
      refine lv_iload_n hx hb dX12_isStair_26 rfl (lv_at hl 2 rfl) ?_
      refine lv_icmp_ne (tgt := 32) hx hb dX12_isStair_27 (by decide) (fun c27_2272 => ?_) (fun c27_2272 => ?_)
      · rw [if_neg c27_2272] at h
        refine lv_iinc (v := (x3_2_2265 + (1 : Int32))) (lv' := [(3, .int (x3_2_2265 + (1 : Int32))), (0, .ref (adr a0)), (1, .int x1), (2, .int x2)]) hx hb dX12_isStair_32 hl (k := 3) rfl (congrArg (fun z => x3_2_2265 + z) (by decide)) (by decide) rfl (fun ls hl => ?_)
        refine lv_goto (tgt := 2) hx hb dX12_isStair_35 (by decide) ?_
        exact ih2_2267 (x3_2_2265 + (1 : Int32)) _ _ _ h ⟨hP, hS, lv_sub hl [1, 2, 3, 0] rfl⟩
      · rw [if_pos c27_2272] at h
        refine lv_iconst (v := (1 : Int32)) hx hb dX12_isStair_30 (by decide) ?_
        cases h
        exact sm_zret (by first | rfl | decide) hx hb hr hlocks hP hS dX12_isStair_31
set_option maxHeartbeats 4000000 in
set_option maxRecDepth 100000 in
theorem k_X12_walks (l : Launch) (D : va_G) (cA : Nat → ClassId) (adr : Nat → Nat) (hJ : smJ 2 adr) (a0 : Nat) (x1 : Int32) (x2 : Int32) (x3 : Int32) (ha0 : smT 2 a0 12) (M : smM) (M1 : smM) (h : m_X12_walks a0 x1 x2 x3 M = some M1) : Met l yX12_walks wsX12_walks ({ frames := 4, cells := 0, slots := 0, locals := 91 }) (smPc D cA 2 adr M [.ref (adr a0), .int x1, .int x2, .int x3]) (smQv D cA 2 adr M1) 0 0 (smA 2 adr) := by
  refine Met.ofW (cc := cX12_walks) (maxL := 8) (ret := none) (by decide) rfl ?_
  intro p e s m args below meth c s₁ B hml hv
  obtain ⟨rfl, hE, hP⟩ := hv
  have hx := B.exec
  have hb := B.bytes
  have hr := B.returns
  have hts := atoms_spec (ws := wsX12_walks) B.pre
  have hown : s.vm.findClass RX12 = some m.cls := findClass_of_methodNamed B.named
  have hlocks := B.notSynchronized
  have hS : va_S (smA 2 adr) s.heap s.heap [] := va_S.rf
  have hP : smP D cA 2 adr M s.heap := hP
  have hl := lv_entry ([.ref (adr a0), .int x1, .int x2, .int x3]) (n := 8) (Nat.le_of_ble_eq_true rfl)
  rw [lg_entry_eq]
  generalize (lg_sl ([.ref (adr a0), .int x1, .int x2, .int x3]) ++ List.replicate (8 - (lg_sl ([.ref (adr a0), .int x1, .int x2, .int x3])).length) Slot.unset).toArray = ls at hl ⊢
  have hl : lv_has ls 8 [(0, .ref (adr a0)), (1, .int x1), (2, .int x2), (3, .int x3)] := hl
  unfold m_X12_walks at h
  have hin12 : ∀ w ∈ u_ws RX12 TX12 54, w ∈ wsX12_walks := by decide +kernel
  refine lv_aload_n hx hb dX12_walks_0 rfl (lv_at hl 0 rfl) ?_
  obtain ⟨M1_2274, hc1_2275, h⟩ := sm_bd h
  refine sm_cv (va_runV (As := []) (rest := []) ⟨hx, hb, hml, hown, hts⟩ (k_X12_laysForms l D cA adr hJ a0 ha0 M M1_2274 hc1_2275) (cwV 0 hts gX12_walks_X12_laysForms rfl rfl rfl (by decide +kernel) ⟨Nat.le_of_ble_eq_true rfl, Nat.le_of_ble_eq_true rfl⟩) ⟨smPc_bl, smRv hE hP ha0 rfl (ci := 12) (q := (RX12, TX12, 54)) rfl, smPc_in [.ref (adr a0)] hE hP⟩ rfl rfl hl.1 rfl (lv_room (Nat.le_of_ble_eq_true rfl)) dX12_walks_1 ⟨Nat.zero_le _, Nat.zero_le _⟩) hS (fun H locs hP hS => ?_)
  refine lv_aload_n hx hb dX12_walks_4 rfl (lv_at hl 0 rfl) ?_
  refine lv_iload_n hx hb dX12_walks_5 rfl (lv_at hl 1 rfl) ?_
  refine sm_put (ci := 12) (C := RX12) (T := TX12) (N := 54) (ty := .int) hx hb hts hin12 tyX12 tyX12_ok nmX12 hown hE hJ hP hS ha0 rfl rfl 26 (by decide) (hts (.fieldLink RX12 207 "OrderMoverModel" "orderNow" "I") (by decide +kernel)) (fun _ h9 => h9) rfl (by decide +kernel) rfl rfl (Nat.le_of_ble_eq_true rfl) rfl dX12_walks_6 (fun H locs hP hS => ?_)
  obtain ⟨M6_2276, hM, h⟩ := sm_lt h
  rw [← hM] at hP; clear hM
  refine lv_aload_n hx hb dX12_walks_9 rfl (lv_at hl 0 rfl) ?_
  refine lv_iload_n hx hb dX12_walks_10 rfl (lv_at hl 2 rfl) ?_
  refine sm_put (ci := 12) (C := RX12) (T := TX12) (N := 54) (ty := .int) hx hb hts hin12 tyX12 tyX12_ok nmX12 hown hE hJ hP hS ha0 rfl rfl 27 (by decide) (hts (.fieldLink RX12 210 "OrderMoverModel" "uNow" "I") (by decide +kernel)) (fun _ h9 => h9) rfl (by decide +kernel) rfl rfl (Nat.le_of_ble_eq_true rfl) rfl dX12_walks_11 (fun H locs hP hS => ?_)
  obtain ⟨M11_2277, hM, h⟩ := sm_lt h
  rw [← hM] at hP; clear hM
  refine lv_aload_n hx hb dX12_walks_14 rfl (lv_at hl 0 rfl) ?_
  refine lv_iload_n hx hb dX12_walks_15 rfl (lv_at hl 3 rfl) ?_
  refine sm_put (ci := 12) (C := RX12) (T := TX12) (N := 54) (ty := .int) hx hb hts hin12 tyX12 tyX12_ok nmX12 hown hE hJ hP hS ha0 rfl rfl 28 (by decide) (hts (.fieldLink RX12 213 "OrderMoverModel" "vNow" "I") (by decide +kernel)) (fun _ h9 => h9) rfl (by decide +kernel) rfl rfl (Nat.le_of_ble_eq_true rfl) rfl dX12_walks_16 (fun H locs hP hS => ?_)
  obtain ⟨M16_2278, hM, h⟩ := sm_lt h
  rw [← hM] at hP; clear hM
  refine lv_aload_n hx hb dX12_walks_19 rfl (lv_at hl 0 rfl) ?_
  refine lv_iconst (v := (0 : Int32)) hx hb dX12_walks_20 (by decide) ?_
  refine sm_put (ci := 12) (C := RX12) (T := TX12) (N := 54) (ty := .int) hx hb hts hin12 tyX12 tyX12_ok nmX12 hown hE hJ hP hS ha0 rfl rfl 29 (by decide) (hts (.fieldLink RX12 220 "OrderMoverModel" "stairs" "I") (by decide +kernel)) (fun _ h9 => h9) rfl (by decide +kernel) rfl rfl (Nat.le_of_ble_eq_true rfl) rfl dX12_walks_21 (fun H locs hP hS => ?_)
  obtain ⟨M21_2279, hM, h⟩ := sm_lt h
  rw [← hM] at hP; clear hM
  refine lv_aload_n hx hb dX12_walks_24 rfl (lv_at hl 0 rfl) ?_
  refine lv_iconst (v := (0 : Int32)) hx hb dX12_walks_25 (by decide) ?_
  refine sm_put (ci := 12) (C := RX12) (T := TX12) (N := 54) (ty := .int) hx hb hts hin12 tyX12 tyX12_ok nmX12 hown hE hJ hP hS ha0 rfl rfl 34 (by decide) (hts (.fieldLink RX12 230 "OrderMoverModel" "members" "I") (by decide +kernel)) (fun _ h9 => h9) rfl (by decide +kernel) rfl rfl (Nat.le_of_ble_eq_true rfl) rfl dX12_walks_26 (fun H locs hP hS => ?_)
  obtain ⟨M26_2280, hM, h⟩ := sm_lt h
  rw [← hM] at hP; clear hM
  refine lv_aload_n hx hb dX12_walks_29 rfl (lv_at hl 0 rfl) ?_
  refine sm_get (ci := 12) (C := RX12) (T := TX12) (N := 54) (v := .ref (adr (a0 + 29))) hx hb hts hin12 hown hE hP ha0 rfl rfl 39 (by decide) (hts (.fieldLink RX12 111 "OrderMoverModel" "waitsI" "[I") (by decide +kernel)) (fun _ h9 => h9) rfl dX12_walks_30 ?_
  refine lv_iconst (v := (0 : Int32)) hx hb dX12_walks_33 (by decide) ?_
  refine lv_iconst (v := (0 : Int32)) hx hb dX12_walks_34 (by decide) ?_
  obtain ⟨c35_2281, h⟩ := sm_ck h
  refine sm_iast hx hb hE hJ hP hS (t12_39 ha0) c35_2281 dX12_walks_35 (fun H locs hP hS => ?_)
  obtain ⟨M35_2282, hM, h⟩ := sm_lt h
  rw [← hM] at hP; clear hM
  refine lv_aload_n hx hb dX12_walks_36 rfl (lv_at hl 0 rfl) ?_
  refine sm_get (ci := 12) (C := RX12) (T := TX12) (N := 54) (v := .ref (adr (a0 + 30))) hx hb hts hin12 hown hE hP ha0 rfl rfl 40 (by decide) (hts (.fieldLink RX12 114 "OrderMoverModel" "waitsJ" "[I") (by decide +kernel)) (fun _ h9 => h9) rfl dX12_walks_37 ?_
  refine lv_iconst (v := (0 : Int32)) hx hb dX12_walks_40 (by decide) ?_
  refine lv_iconst (v := (0 : Int32)) hx hb dX12_walks_41 (by decide) ?_
  obtain ⟨c42_2283, h⟩ := sm_ck h
  refine sm_iast hx hb hE hJ hP hS (t12_40 ha0) c42_2283 dX12_walks_42 (fun H locs hP hS => ?_)
  obtain ⟨M42_2284, hM, h⟩ := sm_lt h
  rw [← hM] at hP; clear hM
  refine lv_aload_n hx hb dX12_walks_43 rfl (lv_at hl 0 rfl) ?_
  refine lv_iconst (v := (1 : Int32)) hx hb dX12_walks_44 (by decide) ?_
  refine sm_put (ci := 12) (C := RX12) (T := TX12) (N := 54) (ty := .int) hx hb hts hin12 tyX12 tyX12_ok nmX12 hown hE hJ hP hS ha0 rfl rfl 38 (by decide) (hts (.fieldLink RX12 227 "OrderMoverModel" "waiting" "I") (by decide +kernel)) (fun _ h9 => h9) rfl (by decide +kernel) rfl rfl (Nat.le_of_ble_eq_true rfl) rfl dX12_walks_45 (fun H locs hP hS => ?_)
  obtain ⟨M45_2285, hM, h⟩ := sm_lt h
  rw [← hM] at hP; clear hM
  refine sm_lp (b := fun rc q => m_X12_walks_b48 a0 rc q) (P := fun (q : smM) H locs ls => smP D cA 2 adr q H ∧ va_S (smA 2 adr) s.heap H locs ∧ lv_has ls 8 [(0, .ref (adr a0))]) (pc := 48) ?_ _ _ _ _ _ h ⟨hP, hS, lv_sub hl [0] rfl⟩
  intro rc48_2287 ih48_2288 q H locs ls h hI
  obtain ⟨M48_2286, hq⟩ : ∃ y, y = q := ⟨_, rfl⟩; subst hq
  obtain ⟨hP, hS, hl⟩ := hI
  have hP : smP D cA 2 adr M48_2286 H := hP
  have hl : lv_has ls 8 [(0, .ref (adr a0))] := hl
  have h : m_X12_walks_b48 a0 rc48_2287 M48_2286 = some _ := h
  unfold m_X12_walks_b48 at h
  refine lv_aload_n hx hb dX12_walks_48 rfl (lv_at hl 0 rfl) ?_
  refine sm_get (ci := 12) (C := RX12) (T := TX12) (N := 54) (v := .int (M48_2286 a0 38)) hx hb hts hin12 hown hE hP ha0 rfl rfl 38 (by decide) (hts (.fieldLink RX12 227 "OrderMoverModel" "waiting" "I") (by decide +kernel)) (fun _ h9 => h9) rfl dX12_walks_49 ?_
  refine lv_if_le (tgt := 247) hx hb dX12_walks_52 (by decide) (fun c52_2289 => ?_) (fun c52_2289 => ?_)
  · rw [if_pos c52_2289] at h
    cases h
    exact sm_vret hx hb hr hlocks hP hS dX12_walks_247
  · rw [if_neg c52_2289] at h
    refine lv_iconst (v := (0 : Int32)) hx hb dX12_walks_55 (by decide) ?_
    refine lv_istore (lv' := [(4, .int (0 : Int32)), (0, .ref (adr a0))]) hx hb dX12_walks_56 hl (by decide) rfl (fun ls hl => ?_)
    refine lv_iconst (v := (1 : Int32)) hx hb dX12_walks_58 (by decide) ?_
    refine lv_istore (lv' := [(5, .int (1 : Int32)), (4, .int (0 : Int32)), (0, .ref (adr a0))]) hx hb dX12_walks_59 hl (by decide) rfl (fun ls hl => ?_)
    refine sm_lp (b := fun rc q => m_X12_walks_b61 a0 M48_2286 rc48_2287 rc q.1 q.2) (P := fun (q : Int32 × Int32) H locs ls => smP D cA 2 adr M48_2286 H ∧ va_S (smA 2 adr) s.heap H locs ∧ lv_has ls 8 [(0, .ref (adr a0)), (4, .int q.1), (5, .int q.2)]) (pc := 61) ?_ _ _ _ _ _ h ⟨hP, hS, lv_sub hl [2, 1, 0] rfl⟩
    intro rc61_2292 ih61_2293 q H locs ls h hI
    obtain ⟨x4_61_2290, x5_61_2291⟩ := q
    obtain ⟨hP, hS, hl⟩ := hI
    have hP : smP D cA 2 adr M48_2286 H := hP
    have hl : lv_has ls 8 [(0, .ref (adr a0)), (4, .int x4_61_2290), (5, .int x5_61_2291)] := hl
    have h : m_X12_walks_b61 a0 M48_2286 rc48_2287 rc61_2292 x4_61_2290 x5_61_2291 = some _ := h
    unfold m_X12_walks_b61 at h
    refine lv_iload hx hb dX12_walks_61 (lv_at hl 2 rfl) ?_
    refine lv_aload_n hx hb dX12_walks_63 rfl (lv_at hl 0 rfl) ?_
    refine sm_get (ci := 12) (C := RX12) (T := TX12) (N := 54) (v := .int (M48_2286 a0 38)) hx hb hts hin12 hown hE hP ha0 rfl rfl 38 (by decide) (hts (.fieldLink RX12 227 "OrderMoverModel" "waiting" "I") (by decide +kernel)) (fun _ h9 => h9) rfl dX12_walks_64 ?_
    refine lv_icmp_ge (tgt := 120) hx hb dX12_walks_67 (by decide) (fun c67_2294 => ?_) (fun c67_2294 => ?_)
    · rw [if_pos c67_2294] at h
      refine lv_aload_n hx hb dX12_walks_120 rfl (lv_at hl 0 rfl) ?_
      refine sm_get (ci := 12) (C := RX12) (T := TX12) (N := 54) (v := .ref (adr (a0 + 29))) hx hb hts hin12 hown hE hP ha0 rfl rfl 39 (by decide) (hts (.fieldLink RX12 111 "OrderMoverModel" "waitsI" "[I") (by decide +kernel)) (fun _ h9 => h9) rfl dX12_walks_121 ?_
      refine lv_iload hx hb dX12_walks_124 (lv_at hl 1 rfl) ?_
      obtain ⟨c126_2295, h⟩ := sm_ck h
      refine sm_iald hx hb hE hP (t12_39 ha0) c126_2295 dX12_walks_126 ?_
      refine lv_istore (lv' := [(5, .int (M48_2286 (a0 + 29) (x4_61_2290).toNatClampNeg)), (0, .ref (adr a0)), (4, .int x4_61_2290)]) hx hb dX12_walks_127 hl (by decide) rfl (fun ls hl => ?_)
      refine lv_aload_n hx hb dX12_walks_129 rfl (lv_at hl 1 rfl) ?_
      refine sm_get (ci := 12) (C := RX12) (T := TX12) (N := 54) (v := .ref (adr (a0 + 30))) hx hb hts hin12 hown hE hP ha0 rfl rfl 40 (by decide) (hts (.fieldLink RX12 114 "OrderMoverModel" "waitsJ" "[I") (by decide +kernel)) (fun _ h9 => h9) rfl dX12_walks_130 ?_
      refine lv_iload hx hb dX12_walks_133 (lv_at hl 2 rfl) ?_
      obtain ⟨c135_2296, h⟩ := sm_ck h
      refine sm_iald hx hb hE hP (t12_40 ha0) c135_2296 dX12_walks_135 ?_
      refine lv_istore (lv' := [(6, .int (M48_2286 (a0 + 30) (x4_61_2290).toNatClampNeg)), (5, .int (M48_2286 (a0 + 29) (x4_61_2290).toNatClampNeg)), (0, .ref (adr a0)), (4, .int x4_61_2290)]) hx hb dX12_walks_136 hl (by decide) rfl (fun ls hl => ?_)
      refine lv_aload_n hx hb dX12_walks_138 rfl (lv_at hl 2 rfl) ?_
      refine lv_dup hx hb dX12_walks_139 rfl ?_
      refine sm_get (ci := 12) (C := RX12) (T := TX12) (N := 54) (v := .int (M48_2286 a0 38)) hx hb hts hin12 hown hE hP ha0 rfl rfl 38 (by decide) (hts (.fieldLink RX12 227 "OrderMoverModel" "waiting" "I") (by decide +kernel)) (fun _ h9 => h9) rfl dX12_walks_140 ?_
      refine lv_iconst (v := (1 : Int32)) hx hb dX12_walks_143 (by decide) ?_
      refine lv_isub hx hb dX12_walks_144 ?_
      refine sm_put (ci := 12) (C := RX12) (T := TX12) (N := 54) (ty := .int) hx hb hts hin12 tyX12 tyX12_ok nmX12 hown hE hJ hP hS ha0 rfl rfl 38 (by decide) (hts (.fieldLink RX12 227 "OrderMoverModel" "waiting" "I") (by decide +kernel)) (fun _ h9 => h9) rfl (by decide +kernel) rfl rfl (Nat.le_of_ble_eq_true rfl) rfl dX12_walks_145 (fun H locs hP hS => ?_)
      obtain ⟨M145_2297, hM, h⟩ := sm_lt h
      rw [← hM] at hP; clear hM
      refine lv_aload_n hx hb dX12_walks_148 rfl (lv_at hl 2 rfl) ?_
      refine sm_get (ci := 12) (C := RX12) (T := TX12) (N := 54) (v := .ref (adr (a0 + 29))) hx hb hts hin12 hown hE hP ha0 rfl rfl 39 (by decide) (hts (.fieldLink RX12 111 "OrderMoverModel" "waitsI" "[I") (by decide +kernel)) (fun _ h9 => h9) rfl dX12_walks_149 ?_
      refine lv_iload hx hb dX12_walks_152 (lv_at hl 3 rfl) ?_
      refine lv_aload_n hx hb dX12_walks_154 rfl (lv_at hl 2 rfl) ?_
      refine sm_get (ci := 12) (C := RX12) (T := TX12) (N := 54) (v := .ref (adr (a0 + 29))) hx hb hts hin12 hown hE hP ha0 rfl rfl 39 (by decide) (hts (.fieldLink RX12 111 "OrderMoverModel" "waitsI" "[I") (by decide +kernel)) (fun _ h9 => h9) rfl dX12_walks_155 ?_
      refine lv_aload_n hx hb dX12_walks_158 rfl (lv_at hl 2 rfl) ?_
      refine sm_get (ci := 12) (C := RX12) (T := TX12) (N := 54) (v := .int (M145_2297 a0 38)) hx hb hts hin12 hown hE hP ha0 rfl rfl 38 (by decide) (hts (.fieldLink RX12 227 "OrderMoverModel" "waiting" "I") (by decide +kernel)) (fun _ h9 => h9) rfl dX12_walks_159 ?_
      obtain ⟨c162_2298, h⟩ := sm_ck h
      refine sm_iald hx hb hE hP (t12_39 ha0) c162_2298 dX12_walks_162 ?_
      obtain ⟨c163_2299, h⟩ := sm_ck h
      refine sm_iast hx hb hE hJ hP hS (t12_39 ha0) c163_2299 dX12_walks_163 (fun H locs hP hS => ?_)
      obtain ⟨M163_2300, hM, h⟩ := sm_lt h
      rw [← hM] at hP; clear hM
      refine lv_aload_n hx hb dX12_walks_164 rfl (lv_at hl 2 rfl) ?_
      refine sm_get (ci := 12) (C := RX12) (T := TX12) (N := 54) (v := .ref (adr (a0 + 30))) hx hb hts hin12 hown hE hP ha0 rfl rfl 40 (by decide) (hts (.fieldLink RX12 114 "OrderMoverModel" "waitsJ" "[I") (by decide +kernel)) (fun _ h9 => h9) rfl dX12_walks_165 ?_
      refine lv_iload hx hb dX12_walks_168 (lv_at hl 3 rfl) ?_
      refine lv_aload_n hx hb dX12_walks_170 rfl (lv_at hl 2 rfl) ?_
      refine sm_get (ci := 12) (C := RX12) (T := TX12) (N := 54) (v := .ref (adr (a0 + 30))) hx hb hts hin12 hown hE hP ha0 rfl rfl 40 (by decide) (hts (.fieldLink RX12 114 "OrderMoverModel" "waitsJ" "[I") (by decide +kernel)) (fun _ h9 => h9) rfl dX12_walks_171 ?_
      refine lv_aload_n hx hb dX12_walks_174 rfl (lv_at hl 2 rfl) ?_
      refine sm_get (ci := 12) (C := RX12) (T := TX12) (N := 54) (v := .int (M163_2300 a0 38)) hx hb hts hin12 hown hE hP ha0 rfl rfl 38 (by decide) (hts (.fieldLink RX12 227 "OrderMoverModel" "waiting" "I") (by decide +kernel)) (fun _ h9 => h9) rfl dX12_walks_175 ?_
      obtain ⟨c178_2301, h⟩ := sm_ck h
      refine sm_iald hx hb hE hP (t12_40 ha0) c178_2301 dX12_walks_178 ?_
      obtain ⟨c179_2302, h⟩ := sm_ck h
      refine sm_iast hx hb hE hJ hP hS (t12_40 ha0) c179_2302 dX12_walks_179 (fun H locs hP hS => ?_)
      obtain ⟨M179_2303, hM, h⟩ := sm_lt h
      rw [← hM] at hP; clear hM
      refine lv_aload_n hx hb dX12_walks_180 rfl (lv_at hl 2 rfl) ?_
      refine lv_iload hx hb dX12_walks_181 (lv_at hl 1 rfl) ?_
      refine lv_iload hx hb dX12_walks_183 (lv_at hl 0 rfl) ?_
      obtain ⟨v185_2304, hc185_2306, h⟩ := sm_bd h
      refine sm_ci (va_runV (As := [.int (M48_2286 (a0 + 29) (x4_61_2290).toNatClampNeg), .int (M48_2286 (a0 + 30) (x4_61_2290).toNatClampNeg)]) (rest := []) ⟨hx, hb, hml, hown, hts⟩ (k_X12_isMultiple l D cA adr hJ a0 (M48_2286 (a0 + 29) (x4_61_2290).toNatClampNeg) (M48_2286 (a0 + 30) (x4_61_2290).toNatClampNeg) ha0 M179_2303 v185_2304 hc185_2306) (cwV 2 hts gX12_walks_X12_isMultiple rfl rfl rfl (by decide +kernel) ⟨Nat.le_of_ble_eq_true rfl, Nat.le_of_ble_eq_true rfl⟩) ⟨smPc_bl, smRv hE hP ha0 rfl (ci := 12) (q := (RX12, TX12, 54)) rfl, smPc_in [.ref (adr a0), .int (M48_2286 (a0 + 29) (x4_61_2290).toNatClampNeg), .int (M48_2286 (a0 + 30) (x4_61_2290).toNatClampNeg)] hE hP⟩ rfl rfl hl.1 rfl (lv_room (Nat.le_of_ble_eq_true rfl)) dX12_walks_185 ⟨Nat.zero_le _, Nat.zero_le _⟩) hS (fun H locs hP hS => ?_)
      refine lv_if_ne (tgt := 244) hx hb dX12_walks_188 (by decide) (fun c188_2307 => ?_) (fun c188_2307 => ?_)
      · rw [if_neg c188_2307] at h
        refine lv_goto (tgt := 48) hx hb dX12_walks_244 (by decide) ?_
        exact ih48_2288 M179_2303 _ _ _ h ⟨hP, hS, lv_sub hl [2] rfl⟩
      · rw [if_pos c188_2307] at h
        refine lv_aload_n hx hb dX12_walks_191 rfl (lv_at hl 2 rfl) ?_
        refine lv_iload hx hb dX12_walks_192 (lv_at hl 1 rfl) ?_
        refine lv_iload hx hb dX12_walks_194 (lv_at hl 0 rfl) ?_
        obtain ⟨v196_2308, hc196_2310, h⟩ := sm_bd h
        refine sm_ci (va_runV (As := [.int (M48_2286 (a0 + 29) (x4_61_2290).toNatClampNeg), .int (M48_2286 (a0 + 30) (x4_61_2290).toNatClampNeg)]) (rest := []) ⟨hx, hb, hml, hown, hts⟩ (k_X12_isStair l D cA adr hJ a0 (M48_2286 (a0 + 29) (x4_61_2290).toNatClampNeg) (M48_2286 (a0 + 30) (x4_61_2290).toNatClampNeg) ha0 M179_2303 v196_2308 hc196_2310) (cwV 2 hts gX12_walks_X12_isStair rfl rfl rfl (by decide +kernel) ⟨Nat.le_of_ble_eq_true rfl, Nat.le_of_ble_eq_true rfl⟩) ⟨smPc_bl, smRv hE hP ha0 rfl (ci := 12) (q := (RX12, TX12, 54)) rfl, smPc_in [.ref (adr a0), .int (M48_2286 (a0 + 29) (x4_61_2290).toNatClampNeg), .int (M48_2286 (a0 + 30) (x4_61_2290).toNatClampNeg)] hE hP⟩ rfl rfl hl.1 rfl (lv_room (Nat.le_of_ble_eq_true rfl)) dX12_walks_196 ⟨Nat.zero_le _, Nat.zero_le _⟩) hS (fun H locs hP hS => ?_)
        refine lv_if_ne (tgt := 244) hx hb dX12_walks_199 (by decide) (fun c199_2311 => ?_) (fun c199_2311 => ?_)
        · rw [if_neg c199_2311] at h
          refine lv_goto (tgt := 48) hx hb dX12_walks_244 (by decide) ?_
          exact ih48_2288 M179_2303 _ _ _ h ⟨hP, hS, lv_sub hl [2] rfl⟩
        · rw [if_pos c199_2311] at h
          refine lv_aload_n hx hb dX12_walks_202 rfl (lv_at hl 2 rfl) ?_
          refine lv_iload hx hb dX12_walks_203 (lv_at hl 1 rfl) ?_
          refine lv_iload hx hb dX12_walks_205 (lv_at hl 0 rfl) ?_
          obtain ⟨M207_2313, hc207_2314, h⟩ := sm_bd h
          refine sm_cv (va_runV (As := [.int (M48_2286 (a0 + 29) (x4_61_2290).toNatClampNeg), .int (M48_2286 (a0 + 30) (x4_61_2290).toNatClampNeg)]) (rest := []) ⟨hx, hb, hml, hown, hts⟩ (k_X12_formOf l D cA adr hJ a0 (M48_2286 (a0 + 29) (x4_61_2290).toNatClampNeg) (M48_2286 (a0 + 30) (x4_61_2290).toNatClampNeg) ha0 M179_2303 M207_2313 hc207_2314) (cwV 2 hts gX12_walks_X12_formOf rfl rfl rfl (by decide +kernel) ⟨Nat.le_of_ble_eq_true rfl, Nat.le_of_ble_eq_true rfl⟩) ⟨smPc_bl, smRv hE hP ha0 rfl (ci := 12) (q := (RX12, TX12, 54)) rfl, smPc_in [.ref (adr a0), .int (M48_2286 (a0 + 29) (x4_61_2290).toNatClampNeg), .int (M48_2286 (a0 + 30) (x4_61_2290).toNatClampNeg)] hE hP⟩ rfl rfl hl.1 rfl (lv_room (Nat.le_of_ble_eq_true rfl)) dX12_walks_207 ⟨Nat.zero_le _, Nat.zero_le _⟩) hS (fun H locs hP hS => ?_)
          refine lv_aload_n hx hb dX12_walks_210 rfl (lv_at hl 2 rfl) ?_
          obtain ⟨v211_2315, M211_2316, hc211_2317, h⟩ := sm_bd2 h
          refine sm_ci (va_runV (As := []) (rest := []) ⟨hx, hb, hml, hown, hts⟩ (k_X12_isLeft l D cA adr hJ a0 ha0 M207_2313 v211_2315 M211_2316 hc211_2317) (cwV 0 hts gX12_walks_X12_isLeft rfl rfl rfl (by decide +kernel) ⟨Nat.le_of_ble_eq_true rfl, Nat.le_of_ble_eq_true rfl⟩) ⟨smPc_bl, smRv hE hP ha0 rfl (ci := 12) (q := (RX12, TX12, 54)) rfl, smPc_in [.ref (adr a0)] hE hP⟩ rfl rfl hl.1 rfl (lv_room (Nat.le_of_ble_eq_true rfl)) dX12_walks_211 ⟨Nat.zero_le _, Nat.zero_le _⟩) hS (fun H locs hP hS => ?_)
          refine lv_istore (lv' := [(7, .int v211_2315), (6, .int (M48_2286 (a0 + 30) (x4_61_2290).toNatClampNeg)), (5, .int (M48_2286 (a0 + 29) (x4_61_2290).toNatClampNeg)), (0, .ref (adr a0)), (4, .int x4_61_2290)]) hx hb dX12_walks_214 hl (by decide) rfl (fun ls hl => ?_)
          refine lv_iload hx hb dX12_walks_216 (lv_at hl 0 rfl) ?_
          refine lv_bipush (v := (-4 : Int32)) hx hb dX12_walks_218 (by decide) ?_
          refine lv_icmp_ne (tgt := 234) hx hb dX12_walks_220 (by decide) (fun c220_2318 => ?_) (fun c220_2318 => ?_)
          · rw [if_neg c220_2318] at h
            refine lv_aload_n hx hb dX12_walks_234 rfl (lv_at hl 3 rfl) ?_
            refine lv_iload hx hb dX12_walks_235 (lv_at hl 2 rfl) ?_
            refine lv_iload hx hb dX12_walks_237 (lv_at hl 1 rfl) ?_
            refine lv_iload hx hb dX12_walks_239 (lv_at hl 0 rfl) ?_
            obtain ⟨M241_2320, hc241_2321, h⟩ := sm_bd h
            refine sm_cv (va_runV (As := [.int (M48_2286 (a0 + 29) (x4_61_2290).toNatClampNeg), .int (M48_2286 (a0 + 30) (x4_61_2290).toNatClampNeg), .int v211_2315]) (rest := []) ⟨hx, hb, hml, hown, hts⟩ (k_X12_climbs l D cA adr hJ a0 (M48_2286 (a0 + 29) (x4_61_2290).toNatClampNeg) (M48_2286 (a0 + 30) (x4_61_2290).toNatClampNeg) v211_2315 ha0 M211_2316 M241_2320 hc241_2321) (cwV 3 hts gX12_walks_X12_climbs rfl rfl rfl (by decide +kernel) ⟨Nat.le_of_ble_eq_true rfl, Nat.le_of_ble_eq_true rfl⟩) ⟨smPc_bl, smRv hE hP ha0 rfl (ci := 12) (q := (RX12, TX12, 54)) rfl, smPc_in [.ref (adr a0), .int (M48_2286 (a0 + 29) (x4_61_2290).toNatClampNeg), .int (M48_2286 (a0 + 30) (x4_61_2290).toNatClampNeg), .int v211_2315] hE hP⟩ rfl rfl hl.1 rfl (lv_room (Nat.le_of_ble_eq_true rfl)) dX12_walks_241 ⟨Nat.zero_le _, Nat.zero_le _⟩) hS (fun H locs hP hS => ?_)
            refine lv_goto (tgt := 48) hx hb dX12_walks_244 (by decide) ?_
            exact ih48_2288 M241_2320 _ _ _ h ⟨hP, hS, lv_sub hl [3] rfl⟩
          · rw [if_pos c220_2318] at h
            refine lv_aload_n hx hb dX12_walks_223 rfl (lv_at hl 3 rfl) ?_
            refine lv_iload hx hb dX12_walks_224 (lv_at hl 2 rfl) ?_
            refine lv_iload hx hb dX12_walks_226 (lv_at hl 1 rfl) ?_
            obtain ⟨M228_2323, hc228_2324, h⟩ := sm_bd h
            refine sm_cv (va_runV (As := [.int (M48_2286 (a0 + 29) (x4_61_2290).toNatClampNeg), .int (M48_2286 (a0 + 30) (x4_61_2290).toNatClampNeg)]) (rest := []) ⟨hx, hb, hml, hown, hts⟩ (k_X12_leadsNow l D cA adr hJ a0 (M48_2286 (a0 + 29) (x4_61_2290).toNatClampNeg) (M48_2286 (a0 + 30) (x4_61_2290).toNatClampNeg) ha0 M211_2316 M228_2323 hc228_2324) (cwV 2 hts gX12_walks_X12_leadsNow rfl rfl rfl (by decide +kernel) ⟨Nat.le_of_ble_eq_true rfl, Nat.le_of_ble_eq_true rfl⟩) ⟨smPc_bl, smRv hE hP ha0 rfl (ci := 12) (q := (RX12, TX12, 54)) rfl, smPc_in [.ref (adr a0), .int (M48_2286 (a0 + 29) (x4_61_2290).toNatClampNeg), .int (M48_2286 (a0 + 30) (x4_61_2290).toNatClampNeg)] hE hP⟩ rfl rfl hl.1 rfl (lv_room (Nat.le_of_ble_eq_true rfl)) dX12_walks_228 ⟨Nat.zero_le _, Nat.zero_le _⟩) hS (fun H locs hP hS => ?_)
            refine lv_goto (tgt := 244) hx hb dX12_walks_231 (by decide) ?_
            refine lv_goto (tgt := 48) hx hb dX12_walks_244 (by decide) ?_
            exact ih48_2288 M228_2323 _ _ _ h ⟨hP, hS, lv_sub hl [3] rfl⟩
    · rw [if_neg c67_2294] at h
      refine lv_aload_n hx hb dX12_walks_70 rfl (lv_at hl 0 rfl) ?_
      refine lv_aload_n hx hb dX12_walks_71 rfl (lv_at hl 0 rfl) ?_
      refine sm_get (ci := 12) (C := RX12) (T := TX12) (N := 54) (v := .ref (adr (a0 + 29))) hx hb hts hin12 hown hE hP ha0 rfl rfl 39 (by decide) (hts (.fieldLink RX12 111 "OrderMoverModel" "waitsI" "[I") (by decide +kernel)) (fun _ h9 => h9) rfl dX12_walks_72 ?_
      refine lv_iload hx hb dX12_walks_75 (lv_at hl 2 rfl) ?_
      obtain ⟨c77_2325, h⟩ := sm_ck h
      refine sm_iald hx hb hE hP (t12_39 ha0) c77_2325 dX12_walks_77 ?_
      refine lv_aload_n hx hb dX12_walks_78 rfl (lv_at hl 0 rfl) ?_
      refine sm_get (ci := 12) (C := RX12) (T := TX12) (N := 54) (v := .ref (adr (a0 + 30))) hx hb hts hin12 hown hE hP ha0 rfl rfl 40 (by decide) (hts (.fieldLink RX12 114 "OrderMoverModel" "waitsJ" "[I") (by decide +kernel)) (fun _ h9 => h9) rfl dX12_walks_79 ?_
      refine lv_iload hx hb dX12_walks_82 (lv_at hl 2 rfl) ?_
      obtain ⟨c84_2326, h⟩ := sm_ck h
      refine sm_iald hx hb hE hP (t12_40 ha0) c84_2326 dX12_walks_84 ?_
      refine lv_aload_n hx hb dX12_walks_85 rfl (lv_at hl 0 rfl) ?_
      refine sm_get (ci := 12) (C := RX12) (T := TX12) (N := 54) (v := .ref (adr (a0 + 29))) hx hb hts hin12 hown hE hP ha0 rfl rfl 39 (by decide) (hts (.fieldLink RX12 111 "OrderMoverModel" "waitsI" "[I") (by decide +kernel)) (fun _ h9 => h9) rfl dX12_walks_86 ?_
      refine lv_iload hx hb dX12_walks_89 (lv_at hl 1 rfl) ?_
      obtain ⟨c91_2327, h⟩ := sm_ck h
      refine sm_iald hx hb hE hP (t12_39 ha0) c91_2327 dX12_walks_91 ?_
      refine lv_aload_n hx hb dX12_walks_92 rfl (lv_at hl 0 rfl) ?_
      refine sm_get (ci := 12) (C := RX12) (T := TX12) (N := 54) (v := .ref (adr (a0 + 30))) hx hb hts hin12 hown hE hP ha0 rfl rfl 40 (by decide) (hts (.fieldLink RX12 114 "OrderMoverModel" "waitsJ" "[I") (by decide +kernel)) (fun _ h9 => h9) rfl dX12_walks_93 ?_
      refine lv_iload hx hb dX12_walks_96 (lv_at hl 1 rfl) ?_
      obtain ⟨c98_2328, h⟩ := sm_ck h
      refine sm_iald hx hb hE hP (t12_40 ha0) c98_2328 dX12_walks_98 ?_
      obtain ⟨v99_2329, hc99_2331, h⟩ := sm_bd h
      refine sm_ci (va_runV (As := [.int (M48_2286 (a0 + 29) (x5_61_2291).toNatClampNeg), .int (M48_2286 (a0 + 30) (x5_61_2291).toNatClampNeg), .int (M48_2286 (a0 + 29) (x4_61_2290).toNatClampNeg), .int (M48_2286 (a0 + 30) (x4_61_2290).toNatClampNeg)]) (rest := []) ⟨hx, hb, hml, hown, hts⟩ (k_X12_isLess l D cA adr hJ a0 (M48_2286 (a0 + 29) (x5_61_2291).toNatClampNeg) (M48_2286 (a0 + 30) (x5_61_2291).toNatClampNeg) (M48_2286 (a0 + 29) (x4_61_2290).toNatClampNeg) (M48_2286 (a0 + 30) (x4_61_2290).toNatClampNeg) ha0 M48_2286 v99_2329 hc99_2331) (cwV 4 hts gX12_walks_X12_isLess rfl rfl rfl (by decide +kernel) ⟨Nat.le_of_ble_eq_true rfl, Nat.le_of_ble_eq_true rfl⟩) ⟨smPc_bl, smRv hE hP ha0 rfl (ci := 12) (q := (RX12, TX12, 54)) rfl, smPc_in [.ref (adr a0), .int (M48_2286 (a0 + 29) (x5_61_2291).toNatClampNeg), .int (M48_2286 (a0 + 30) (x5_61_2291).toNatClampNeg), .int (M48_2286 (a0 + 29) (x4_61_2290).toNatClampNeg), .int (M48_2286 (a0 + 30) (x4_61_2290).toNatClampNeg)] hE hP⟩ rfl rfl hl.1 rfl (lv_room (Nat.le_of_ble_eq_true rfl)) dX12_walks_99 ⟨Nat.zero_le _, Nat.zero_le _⟩) hS (fun H locs hP hS => ?_)
      refine lv_if_eq (tgt := 110) hx hb dX12_walks_102 (by decide) (fun c102_2332 => ?_) (fun c102_2332 => ?_)
      · rw [if_pos c102_2332] at h
        refine lv_iload hx hb dX12_walks_110 (lv_at hl 1 rfl) ?_
        refine lv_istore (lv' := [(4, .int x4_61_2290), (0, .ref (adr a0)), (5, .int x5_61_2291)]) hx hb dX12_walks_112 hl (by decide) rfl (fun ls hl => ?_)
        refine lv_iinc (v := (x5_61_2291 + (1 : Int32))) (lv' := [(5, .int (x5_61_2291 + (1 : Int32))), (4, .int x4_61_2290), (0, .ref (adr a0))]) hx hb dX12_walks_114 hl (k := 2) rfl (congrArg (fun z => x5_61_2291 + z) (by decide)) (by decide) rfl (fun ls hl => ?_)
        refine lv_goto (tgt := 61) hx hb dX12_walks_117 (by decide) ?_
        exact ih61_2293 (x4_61_2290, (x5_61_2291 + (1 : Int32))) _ _ _ h ⟨hP, hS, lv_sub hl [2, 1, 0] rfl⟩
      · rw [if_neg c102_2332] at h
        refine lv_iload hx hb dX12_walks_105 (lv_at hl 2 rfl) ?_
        refine lv_goto (tgt := 112) hx hb dX12_walks_107 (by decide) ?_
        refine lv_istore (lv' := [(4, .int x5_61_2291), (0, .ref (adr a0)), (5, .int x5_61_2291)]) hx hb dX12_walks_112 hl (by decide) rfl (fun ls hl => ?_)
        refine lv_iinc (v := (x5_61_2291 + (1 : Int32))) (lv' := [(5, .int (x5_61_2291 + (1 : Int32))), (4, .int x5_61_2291), (0, .ref (adr a0))]) hx hb dX12_walks_114 hl (k := 2) rfl (congrArg (fun z => x5_61_2291 + z) (by decide)) (by decide) rfl (fun ls hl => ?_)
        refine lv_goto (tgt := 61) hx hb dX12_walks_117 (by decide) ?_
        exact ih61_2293 (x5_61_2291, (x5_61_2291 + (1 : Int32))) _ _ _ h ⟨hP, hS, lv_sub hl [2, 1, 0] rfl⟩
set_option maxHeartbeats 4000000 in
set_option maxRecDepth 100000 in
theorem k_X12_walksNow (l : Launch) (D : va_G) (cA : Nat → ClassId) (adr : Nat → Nat) (hJ : smJ 2 adr) (a0 : Nat) (x1 : Int32) (ha0 : smT 2 a0 12) (M : smM) (M1 : smM) (h : m_X12_walksNow a0 x1 M = some M1) : Met l yX12_walksNow wsX12_walksNow ({ frames := 5, cells := 0, slots := 0, locals := 118 }) (smPc D cA 2 adr M [.ref (adr a0), .int x1]) (smQv D cA 2 adr M1) 0 0 (smA 2 adr) := by
  refine Met.ofW (cc := cX12_walksNow) (maxL := 2) (ret := none) (by decide) rfl ?_
  intro p e s m args below meth c s₁ B hml hv
  obtain ⟨rfl, hE, hP⟩ := hv
  have hx := B.exec
  have hb := B.bytes
  have hr := B.returns
  have hts := atoms_spec (ws := wsX12_walksNow) B.pre
  have hown : s.vm.findClass RX12 = some m.cls := findClass_of_methodNamed B.named
  have hlocks := B.notSynchronized
  have hS : va_S (smA 2 adr) s.heap s.heap [] := va_S.rf
  have hP : smP D cA 2 adr M s.heap := hP
  have hl := lv_entry ([.ref (adr a0), .int x1]) (n := 2) (Nat.le_of_ble_eq_true rfl)
  rw [lg_entry_eq]
  generalize (lg_sl ([.ref (adr a0), .int x1]) ++ List.replicate (2 - (lg_sl ([.ref (adr a0), .int x1])).length) Slot.unset).toArray = ls at hl ⊢
  have hl : lv_has ls 2 [(0, .ref (adr a0)), (1, .int x1)] := hl
  unfold m_X12_walksNow at h
  have hin12 : ∀ w ∈ u_ws RX12 TX12 54, w ∈ wsX12_walksNow := by decide +kernel
  refine lv_aload_n hx hb dX12_walksNow_0 rfl (lv_at hl 0 rfl) ?_
  refine lv_iload_n hx hb dX12_walksNow_1 rfl (lv_at hl 1 rfl) ?_
  refine lv_aload_n hx hb dX12_walksNow_2 rfl (lv_at hl 0 rfl) ?_
  refine sm_get (ci := 12) (C := RX12) (T := TX12) (N := 54) (v := .int (M a0 3)) hx hb hts hin12 hown hE hP ha0 rfl rfl 3 (by decide) (hts (.fieldLink RX12 19 "OrderMoverModel" "u" "I") (by decide +kernel)) (fun _ h9 => h9) rfl dX12_walksNow_3 ?_
  refine lv_aload_n hx hb dX12_walksNow_6 rfl (lv_at hl 0 rfl) ?_
  refine sm_get (ci := 12) (C := RX12) (T := TX12) (N := 54) (v := .int (M a0 4)) hx hb hts hin12 hown hE hP ha0 rfl rfl 4 (by decide) (hts (.fieldLink RX12 22 "OrderMoverModel" "v" "I") (by decide +kernel)) (fun _ h9 => h9) rfl dX12_walksNow_7 ?_
  obtain ⟨M10_2334, hc10_2335, h⟩ := sm_bd h
  refine sm_cv (va_runV (As := [.int x1, .int (M a0 3), .int (M a0 4)]) (rest := []) ⟨hx, hb, hml, hown, hts⟩ (k_X12_walks l D cA adr hJ a0 x1 (M a0 3) (M a0 4) ha0 M M10_2334 hc10_2335) (cwV 3 hts gX12_walksNow_X12_walks rfl rfl rfl (by decide +kernel) ⟨Nat.le_of_ble_eq_true rfl, Nat.le_of_ble_eq_true rfl⟩) ⟨smPc_bl, smRv hE hP ha0 rfl (ci := 12) (q := (RX12, TX12, 54)) rfl, smPc_in [.ref (adr a0), .int x1, .int (M a0 3), .int (M a0 4)] hE hP⟩ rfl rfl hl.1 rfl (lv_room (Nat.le_of_ble_eq_true rfl)) dX12_walksNow_10 ⟨Nat.zero_le _, Nat.zero_le _⟩) hS (fun H locs hP hS => ?_)
  cases h
  exact sm_vret hx hb hr hlocks hP hS dX12_walksNow_13
set_option maxHeartbeats 4000000 in
set_option maxRecDepth 100000 in
theorem k_X12_base (l : Launch) (D : va_G) (cA : Nat → ClassId) (adr : Nat → Nat) (hJ : smJ 2 adr) (a0 : Nat) (x1 : Int32) (x2 : Int32) (ha0 : smT 2 a0 12) (M : smM) (v1 : Int32) (M1 : smM) (h : m_X12_base a0 x1 x2 M = some (v1, M1)) : Met l yX12_base wsX12_base ({ frames := 6, cells := 0, slots := 0, locals := 139 }) (smPc D cA 2 adr M [.ref (adr a0), .int x1, .int x2]) (smQi D cA 2 adr M1 v1) 0 0 (smA 2 adr) := by
  refine Met.ofW (cc := cX12_base) (maxL := 3) (ret := (some .int)) (by decide) rfl ?_
  intro p e s m args below meth c s₁ B hml hv
  obtain ⟨rfl, hE, hP⟩ := hv
  have hx := B.exec
  have hb := B.bytes
  have hr := B.returns
  have hts := atoms_spec (ws := wsX12_base) B.pre
  have hown : s.vm.findClass RX12 = some m.cls := findClass_of_methodNamed B.named
  have hlocks := B.notSynchronized
  have hS : va_S (smA 2 adr) s.heap s.heap [] := va_S.rf
  have hP : smP D cA 2 adr M s.heap := hP
  have hl := lv_entry ([.ref (adr a0), .int x1, .int x2]) (n := 3) (Nat.le_of_ble_eq_true rfl)
  rw [lg_entry_eq]
  generalize (lg_sl ([.ref (adr a0), .int x1, .int x2]) ++ List.replicate (3 - (lg_sl ([.ref (adr a0), .int x1, .int x2])).length) Slot.unset).toArray = ls at hl ⊢
  have hl : lv_has ls 3 [(0, .ref (adr a0)), (1, .int x1), (2, .int x2)] := hl
  unfold m_X12_base at h
  have hin12 : ∀ w ∈ u_ws RX12 TX12 54, w ∈ wsX12_base := by decide +kernel
  refine lv_aload_n hx hb dX12_base_0 rfl (lv_at hl 0 rfl) ?_
  refine lv_iload_n hx hb dX12_base_1 rfl (lv_at hl 1 rfl) ?_
  obtain ⟨v2_2336, hc2_2338, h⟩ := sm_bd h
  refine sm_ci (va_runV (As := [.int x1]) (rest := []) ⟨hx, hb, hml, hown, hts⟩ (k_X12_isOrder l D cA adr hJ a0 x1 ha0 M v2_2336 hc2_2338) (cwV 1 hts gX12_base_X12_isOrder rfl rfl rfl (by decide +kernel) ⟨Nat.le_of_ble_eq_true rfl, Nat.le_of_ble_eq_true rfl⟩) ⟨smPc_bl, smRv hE hP ha0 rfl (ci := 12) (q := (RX12, TX12, 54)) rfl, smPc_in [.ref (adr a0), .int x1] hE hP⟩ rfl rfl hl.1 rfl (lv_room (Nat.le_of_ble_eq_true rfl)) dX12_base_2 ⟨Nat.zero_le _, Nat.zero_le _⟩) hS (fun H locs hP hS => ?_)
  refine lv_if_eq (tgt := 20) hx hb dX12_base_5 (by decide) (fun c5_2339 => ?_) (fun c5_2339 => ?_)
  · rw [if_pos c5_2339] at h
    refine lv_iconst (v := (-1 : Int32)) hx hb dX12_base_20 (by decide) ?_
    cases h
    exact sm_iret hx hb hr hlocks hP hS dX12_base_21
  · rw [if_neg c5_2339] at h
    refine lv_iload_n hx hb dX12_base_8 rfl (lv_at hl 2 rfl) ?_
    refine lv_i2l hx hb dX12_base_9 rfl ?_
    refine lv_lconst (v := (0 : Int64)) hx hb dX12_base_10 (by decide) ?_
    refine lv_ldc2 (v := (2 : Int64)) hx hb hown (hts (.constantLong RX12 151 (2)) (by decide +kernel)) dX12_base_11 ?_
    obtain ⟨v14_2340, hc14_2342, h⟩ := sm_bd h
    refine sm_ci (va_runS (As := [.long ((x2).toInt64), .long (0 : Int64), .long (2 : Int64)]) (rest := []) ⟨hx, hb, hml, hown, hts⟩ (k_X12_in l D cA adr hJ ((x2).toInt64) (0 : Int64) (2 : Int64)  M v14_2340 hc14_2342) (va_cwS 3 hts gX12_base_X12_in rfl rfl rfl (by decide +kernel) ⟨Nat.le_of_ble_eq_true rfl, Nat.le_of_ble_eq_true rfl⟩) ⟨smPc_bl, smPc_in [.long ((x2).toInt64), .long (0 : Int64), .long (2 : Int64)] hE hP⟩ rfl rfl hl.1 rfl (lv_room (Nat.le_of_ble_eq_true rfl)) dX12_base_14 ⟨Nat.zero_le _, Nat.zero_le _⟩) hS (fun H locs hP hS => ?_)
    refine lv_if_ne (tgt := 22) hx hb dX12_base_17 (by decide) (fun c17_2343 => ?_) (fun c17_2343 => ?_)
    · rw [if_neg c17_2343] at h
      refine lv_aload_n hx hb dX12_base_22 rfl (lv_at hl 0 rfl) ?_
      refine lv_iload_n hx hb dX12_base_23 rfl (lv_at hl 1 rfl) ?_
      obtain ⟨M24_2345, hc24_2346, h⟩ := sm_bd h
      refine sm_cv (va_runV (As := [.int x1]) (rest := []) ⟨hx, hb, hml, hown, hts⟩ (k_X12_walksNow l D cA adr hJ a0 x1 ha0 M M24_2345 hc24_2346) (cwV 1 hts gX12_base_X12_walksNow rfl rfl rfl (by decide +kernel) ⟨Nat.le_of_ble_eq_true rfl, Nat.le_of_ble_eq_true rfl⟩) ⟨smPc_bl, smRv hE hP ha0 rfl (ci := 12) (q := (RX12, TX12, 54)) rfl, smPc_in [.ref (adr a0), .int x1] hE hP⟩ rfl rfl hl.1 rfl (lv_room (Nat.le_of_ble_eq_true rfl)) dX12_base_24 ⟨Nat.zero_le _, Nat.zero_le _⟩) hS (fun H locs hP hS => ?_)
      refine lv_iload_n hx hb dX12_base_27 rfl (lv_at hl 2 rfl) ?_
      refine lv_if_ne (tgt := 38) hx hb dX12_base_28 (by decide) (fun c28_2347 => ?_) (fun c28_2347 => ?_)
      · rw [if_neg c28_2347] at h
        refine lv_iload_n hx hb dX12_base_38 rfl (lv_at hl 2 rfl) ?_
        refine lv_iconst (v := (1 : Int32)) hx hb dX12_base_39 (by decide) ?_
        refine lv_icmp_ne (tgt := 61) hx hb dX12_base_40 (by decide) (fun c40_2348 => ?_) (fun c40_2348 => ?_)
        · rw [if_neg c40_2348] at h
          refine lv_aload_n hx hb dX12_base_61 rfl (lv_at hl 0 rfl) ?_
          refine sm_get (ci := 12) (C := RX12) (T := TX12) (N := 54) (v := .ref (adr (a0 + 22))) hx hb hts hin12 hown hE hP ha0 rfl rfl 30 (by decide) (hts (.fieldLink RX12 90 "OrderMoverModel" "stairI" "[I") (by decide +kernel)) (fun _ h9 => h9) rfl dX12_base_62 ?_
          refine lv_aload_n hx hb dX12_base_65 rfl (lv_at hl 0 rfl) ?_
          refine sm_get (ci := 12) (C := RX12) (T := TX12) (N := 54) (v := .ref (adr (a0 + 23))) hx hb hts hin12 hown hE hP ha0 rfl rfl 31 (by decide) (hts (.fieldLink RX12 93 "OrderMoverModel" "stairJ" "[I") (by decide +kernel)) (fun _ h9 => h9) rfl dX12_base_66 ?_
          refine lv_aload_n hx hb dX12_base_69 rfl (lv_at hl 0 rfl) ?_
          refine sm_get (ci := 12) (C := RX12) (T := TX12) (N := 54) (v := .int (M24_2345 a0 29)) hx hb hts hin12 hown hE hP ha0 rfl rfl 29 (by decide) (hts (.fieldLink RX12 220 "OrderMoverModel" "stairs" "I") (by decide +kernel)) (fun _ h9 => h9) rfl dX12_base_70 ?_
          obtain ⟨v73_2349, hc73_2351, h⟩ := sm_bd h
          refine sm_ci (va_runS (As := [.ref (adr (a0 + 22)), .ref (adr (a0 + 23)), .int (M24_2345 a0 29)]) (rest := []) ⟨hx, hb, hml, hown, hts⟩ (k_X12_highest l D cA adr hJ (a0 + 22) (a0 + 23) (M24_2345 a0 29) (t12_30 ha0) (t12_31 ha0) M24_2345 v73_2349 hc73_2351) (va_cwS 3 hts gX12_base_X12_highest rfl rfl rfl (by decide +kernel) ⟨Nat.le_of_ble_eq_true rfl, Nat.le_of_ble_eq_true rfl⟩) ⟨smPc_bl, smPc_in [.ref (adr (a0 + 22)), .ref (adr (a0 + 23)), .int (M24_2345 a0 29)] hE hP⟩ rfl rfl hl.1 rfl (lv_room (Nat.le_of_ble_eq_true rfl)) dX12_base_73 ⟨Nat.zero_le _, Nat.zero_le _⟩) hS (fun H locs hP hS => ?_)
          cases h
          exact sm_iret hx hb hr hlocks hP hS dX12_base_76
        · rw [if_pos c40_2348] at h
          refine lv_aload_n hx hb dX12_base_43 rfl (lv_at hl 0 rfl) ?_
          refine sm_get (ci := 12) (C := RX12) (T := TX12) (N := 54) (v := .ref (adr (a0 + 26))) hx hb hts hin12 hown hE hP ha0 rfl rfl 35 (by decide) (hts (.fieldLink RX12 102 "OrderMoverModel" "memberI" "[I") (by decide +kernel)) (fun _ h9 => h9) rfl dX12_base_44 ?_
          refine lv_aload_n hx hb dX12_base_47 rfl (lv_at hl 0 rfl) ?_
          refine sm_get (ci := 12) (C := RX12) (T := TX12) (N := 54) (v := .ref (adr (a0 + 27))) hx hb hts hin12 hown hE hP ha0 rfl rfl 36 (by decide) (hts (.fieldLink RX12 105 "OrderMoverModel" "memberJ" "[I") (by decide +kernel)) (fun _ h9 => h9) rfl dX12_base_48 ?_
          refine lv_aload_n hx hb dX12_base_51 rfl (lv_at hl 0 rfl) ?_
          refine sm_get (ci := 12) (C := RX12) (T := TX12) (N := 54) (v := .int (M24_2345 a0 34)) hx hb hts hin12 hown hE hP ha0 rfl rfl 34 (by decide) (hts (.fieldLink RX12 230 "OrderMoverModel" "members" "I") (by decide +kernel)) (fun _ h9 => h9) rfl dX12_base_52 ?_
          obtain ⟨v55_2352, hc55_2354, h⟩ := sm_bd h
          refine sm_ci (va_runS (As := [.ref (adr (a0 + 26)), .ref (adr (a0 + 27)), .int (M24_2345 a0 34)]) (rest := []) ⟨hx, hb, hml, hown, hts⟩ (k_X12_highest l D cA adr hJ (a0 + 26) (a0 + 27) (M24_2345 a0 34) (t12_35 ha0) (t12_36 ha0) M24_2345 v55_2352 hc55_2354) (va_cwS 3 hts gX12_base_X12_highest rfl rfl rfl (by decide +kernel) ⟨Nat.le_of_ble_eq_true rfl, Nat.le_of_ble_eq_true rfl⟩) ⟨smPc_bl, smPc_in [.ref (adr (a0 + 26)), .ref (adr (a0 + 27)), .int (M24_2345 a0 34)] hE hP⟩ rfl rfl hl.1 rfl (lv_room (Nat.le_of_ble_eq_true rfl)) dX12_base_55 ⟨Nat.zero_le _, Nat.zero_le _⟩) hS (fun H locs hP hS => ?_)
          refine lv_goto (tgt := 76) hx hb dX12_base_58 (by decide) ?_
          cases h
          exact sm_iret hx hb hr hlocks hP hS dX12_base_76
      · rw [if_pos c28_2347] at h
        refine lv_aload_n hx hb dX12_base_31 rfl (lv_at hl 0 rfl) ?_
        refine sm_get (ci := 12) (C := RX12) (T := TX12) (N := 54) (v := .int (M24_2345 a0 34)) hx hb hts hin12 hown hE hP ha0 rfl rfl 34 (by decide) (hts (.fieldLink RX12 230 "OrderMoverModel" "members" "I") (by decide +kernel)) (fun _ h9 => h9) rfl dX12_base_32 ?_
        refine lv_goto (tgt := 76) hx hb dX12_base_35 (by decide) ?_
        cases h
        exact sm_iret hx hb hr hlocks hP hS dX12_base_76
    · rw [if_pos c17_2343] at h
      refine lv_iconst (v := (-1 : Int32)) hx hb dX12_base_20 (by decide) ?_
      cases h
      exact sm_iret hx hb hr hlocks hP hS dX12_base_21
set_option maxHeartbeats 4000000 in
set_option maxRecDepth 100000 in
theorem k_X12_dropsNoughts (l : Launch) (D : va_G) (cA : Nat → ClassId) (adr : Nat → Nat) (hJ : smJ 2 adr) (a0 : Nat) (x1 : Int32) (ha0 : smT 2 a0 12) (M : smM) (M1 : smM) (h : m_X12_dropsNoughts a0 x1 M = some M1) : Met l yX12_dropsNoughts wsX12_dropsNoughts ({ frames := 0, cells := 0, slots := 0, locals := 0 }) (smPc D cA 2 adr M [.ref (adr a0), .int x1]) (smQv D cA 2 adr M1) 0 0 (smA 2 adr) := by
  refine Met.ofW (cc := cX12_dropsNoughts) (maxL := 4) (ret := none) (by decide) rfl ?_
  intro p e s m args below meth c s₁ B hml hv
  obtain ⟨rfl, hE, hP⟩ := hv
  have hx := B.exec
  have hb := B.bytes
  have hr := B.returns
  have hts := atoms_spec (ws := wsX12_dropsNoughts) B.pre
  have hown : s.vm.findClass RX12 = some m.cls := findClass_of_methodNamed B.named
  have hlocks := B.notSynchronized
  have hS : va_S (smA 2 adr) s.heap s.heap [] := va_S.rf
  have hP : smP D cA 2 adr M s.heap := hP
  have hl := lv_entry ([.ref (adr a0), .int x1]) (n := 4) (Nat.le_of_ble_eq_true rfl)
  rw [lg_entry_eq]
  generalize (lg_sl ([.ref (adr a0), .int x1]) ++ List.replicate (4 - (lg_sl ([.ref (adr a0), .int x1])).length) Slot.unset).toArray = ls at hl ⊢
  have hl : lv_has ls 4 [(0, .ref (adr a0)), (1, .int x1)] := hl
  unfold m_X12_dropsNoughts at h
  have hin12 : ∀ w ∈ u_ws RX12 TX12 54, w ∈ wsX12_dropsNoughts := by decide +kernel
  refine lv_iconst (v := (0 : Int32)) hx hb dX12_dropsNoughts_0 (by decide) ?_
  refine lv_istore_n (lv' := [(2, .int (0 : Int32)), (0, .ref (adr a0)), (1, .int x1)]) hx hb dX12_dropsNoughts_1 rfl hl (by decide) rfl (fun ls hl => ?_)
  refine lv_bipush (v := (8 : Int32)) hx hb dX12_dropsNoughts_2 (by decide) ?_
  refine lv_iload_n hx hb dX12_dropsNoughts_4 rfl (lv_at hl 2 rfl) ?_
  refine lv_imul hx hb dX12_dropsNoughts_5 ?_
  refine lv_istore_n (lv' := [(3, .int ((8 : Int32) * x1)), (2, .int (0 : Int32)), (0, .ref (adr a0)), (1, .int x1)]) hx hb dX12_dropsNoughts_6 rfl hl (by decide) rfl (fun ls hl => ?_)
  refine sm_lp (b := fun rc q => m_X12_dropsNoughts_b7 a0 x1 rc q.1 q.2.1 q.2.2) (P := fun (q : Int32 × Int32 × smM) H locs ls => smP D cA 2 adr q.2.2 H ∧ va_S (smA 2 adr) s.heap H locs ∧ lv_has ls 4 [(0, .ref (adr a0)), (1, .int x1), (2, .int q.1), (3, .int q.2.1)]) (pc := 7) ?_ _ _ _ _ _ h ⟨hP, hS, lv_sub hl [2, 3, 1, 0] rfl⟩
  intro rc7_2358 ih7_2359 q H locs ls h hI
  obtain ⟨x2_7_2355, x3_7_2356, M7_2357⟩ := q
  obtain ⟨hP, hS, hl⟩ := hI
  have hP : smP D cA 2 adr M7_2357 H := hP
  have hl : lv_has ls 4 [(0, .ref (adr a0)), (1, .int x1), (2, .int x2_7_2355), (3, .int x3_7_2356)] := hl
  have h : m_X12_dropsNoughts_b7 a0 x1 rc7_2358 x2_7_2355 x3_7_2356 M7_2357 = some _ := h
  unfold m_X12_dropsNoughts_b7 at h
  refine lv_iload_n hx hb dX12_dropsNoughts_7 rfl (lv_at hl 3 rfl) ?_
  refine lv_bipush (v := (8 : Int32)) hx hb dX12_dropsNoughts_8 (by decide) ?_
  refine lv_iload_n hx hb dX12_dropsNoughts_10 rfl (lv_at hl 1 rfl) ?_
  refine lv_imul hx hb dX12_dropsNoughts_11 ?_
  refine lv_aload_n hx hb dX12_dropsNoughts_12 rfl (lv_at hl 0 rfl) ?_
  refine sm_get (ci := 12) (C := RX12) (T := TX12) (N := 54) (v := .ref (adr (a0 + 3))) hx hb hts hin12 hown hE hP ha0 rfl rfl 7 (by decide) (hts (.fieldLink RX12 32 "OrderMoverModel" "many" "[I") (by decide +kernel)) (fun _ h9 => h9) rfl dX12_dropsNoughts_13 ?_
  refine lv_iload_n hx hb dX12_dropsNoughts_16 rfl (lv_at hl 1 rfl) ?_
  obtain ⟨c17_2360, h⟩ := sm_ck h
  refine sm_iald hx hb hE hP (t12_7 ha0) c17_2360 dX12_dropsNoughts_17 ?_
  refine lv_iadd hx hb dX12_dropsNoughts_18 ?_
  refine lv_icmp_ge (tgt := 91) hx hb dX12_dropsNoughts_19 (by decide) (fun c19_2361 => ?_) (fun c19_2361 => ?_)
  · rw [if_pos c19_2361] at h
    refine lv_aload_n hx hb dX12_dropsNoughts_91 rfl (lv_at hl 0 rfl) ?_
    refine sm_get (ci := 12) (C := RX12) (T := TX12) (N := 54) (v := .ref (adr (a0 + 3))) hx hb hts hin12 hown hE hP ha0 rfl rfl 7 (by decide) (hts (.fieldLink RX12 32 "OrderMoverModel" "many" "[I") (by decide +kernel)) (fun _ h9 => h9) rfl dX12_dropsNoughts_92 ?_
    refine lv_iload_n hx hb dX12_dropsNoughts_95 rfl (lv_at hl 1 rfl) ?_
    refine lv_iload_n hx hb dX12_dropsNoughts_96 rfl (lv_at hl 2 rfl) ?_
    obtain ⟨c97_2362, h⟩ := sm_ck h
    refine sm_iast hx hb hE hJ hP hS (t12_7 ha0) c97_2362 dX12_dropsNoughts_97 (fun H locs hP hS => ?_)
    obtain ⟨M97_2363, hM, h⟩ := sm_lt h
    rw [← hM] at hP; clear hM
    cases h
    exact sm_vret hx hb hr hlocks hP hS dX12_dropsNoughts_98
  · rw [if_neg c19_2361] at h
    refine lv_aload_n hx hb dX12_dropsNoughts_22 rfl (lv_at hl 0 rfl) ?_
    refine sm_get (ci := 12) (C := RX12) (T := TX12) (N := 54) (v := .ref (adr (a0 + 4))) hx hb hts hin12 hown hE hP ha0 rfl rfl 8 (by decide) (hts (.fieldLink RX12 35 "OrderMoverModel" "numbers" "[I") (by decide +kernel)) (fun _ h9 => h9) rfl dX12_dropsNoughts_23 ?_
    refine lv_iload_n hx hb dX12_dropsNoughts_26 rfl (lv_at hl 3 rfl) ?_
    obtain ⟨c27_2364, h⟩ := sm_ck h
    refine sm_iald hx hb hE hP (t12_8 ha0) c27_2364 dX12_dropsNoughts_27 ?_
    refine lv_if_eq (tgt := 85) hx hb dX12_dropsNoughts_28 (by decide) (fun c28_2365 => ?_) (fun c28_2365 => ?_)
    · rw [if_pos c28_2365] at h
      refine lv_iinc (v := (x3_7_2356 + (1 : Int32))) (lv' := [(3, .int (x3_7_2356 + (1 : Int32))), (0, .ref (adr a0)), (1, .int x1), (2, .int x2_7_2355)]) hx hb dX12_dropsNoughts_85 hl (k := 3) rfl (congrArg (fun z => x3_7_2356 + z) (by decide)) (by decide) rfl (fun ls hl => ?_)
      refine lv_goto (tgt := 7) hx hb dX12_dropsNoughts_88 (by decide) ?_
      exact ih7_2359 (x2_7_2355, (x3_7_2356 + (1 : Int32)), M7_2357) _ _ _ h ⟨hP, hS, lv_sub hl [1, 2, 3, 0] rfl⟩
    · rw [if_neg c28_2365] at h
      refine lv_aload_n hx hb dX12_dropsNoughts_31 rfl (lv_at hl 0 rfl) ?_
      refine sm_get (ci := 12) (C := RX12) (T := TX12) (N := 54) (v := .ref (adr (a0 + 4))) hx hb hts hin12 hown hE hP ha0 rfl rfl 8 (by decide) (hts (.fieldLink RX12 35 "OrderMoverModel" "numbers" "[I") (by decide +kernel)) (fun _ h9 => h9) rfl dX12_dropsNoughts_32 ?_
      refine lv_bipush (v := (8 : Int32)) hx hb dX12_dropsNoughts_35 (by decide) ?_
      refine lv_iload_n hx hb dX12_dropsNoughts_37 rfl (lv_at hl 1 rfl) ?_
      refine lv_imul hx hb dX12_dropsNoughts_38 ?_
      refine lv_iload_n hx hb dX12_dropsNoughts_39 rfl (lv_at hl 2 rfl) ?_
      refine lv_iadd hx hb dX12_dropsNoughts_40 ?_
      refine lv_aload_n hx hb dX12_dropsNoughts_41 rfl (lv_at hl 0 rfl) ?_
      refine sm_get (ci := 12) (C := RX12) (T := TX12) (N := 54) (v := .ref (adr (a0 + 4))) hx hb hts hin12 hown hE hP ha0 rfl rfl 8 (by decide) (hts (.fieldLink RX12 35 "OrderMoverModel" "numbers" "[I") (by decide +kernel)) (fun _ h9 => h9) rfl dX12_dropsNoughts_42 ?_
      refine lv_iload_n hx hb dX12_dropsNoughts_45 rfl (lv_at hl 3 rfl) ?_
      obtain ⟨c46_2366, h⟩ := sm_ck h
      refine sm_iald hx hb hE hP (t12_8 ha0) c46_2366 dX12_dropsNoughts_46 ?_
      obtain ⟨c47_2367, h⟩ := sm_ck h
      refine sm_iast hx hb hE hJ hP hS (t12_8 ha0) c47_2367 dX12_dropsNoughts_47 (fun H locs hP hS => ?_)
      obtain ⟨M47_2368, hM, h⟩ := sm_lt h
      rw [← hM] at hP; clear hM
      refine lv_aload_n hx hb dX12_dropsNoughts_48 rfl (lv_at hl 0 rfl) ?_
      refine sm_get (ci := 12) (C := RX12) (T := TX12) (N := 54) (v := .ref (adr (a0 + 5))) hx hb hts hin12 hown hE hP ha0 rfl rfl 9 (by decide) (hts (.fieldLink RX12 38 "OrderMoverModel" "powersI" "[I") (by decide +kernel)) (fun _ h9 => h9) rfl dX12_dropsNoughts_49 ?_
      refine lv_bipush (v := (8 : Int32)) hx hb dX12_dropsNoughts_52 (by decide) ?_
      refine lv_iload_n hx hb dX12_dropsNoughts_54 rfl (lv_at hl 1 rfl) ?_
      refine lv_imul hx hb dX12_dropsNoughts_55 ?_
      refine lv_iload_n hx hb dX12_dropsNoughts_56 rfl (lv_at hl 2 rfl) ?_
      refine lv_iadd hx hb dX12_dropsNoughts_57 ?_
      refine lv_aload_n hx hb dX12_dropsNoughts_58 rfl (lv_at hl 0 rfl) ?_
      refine sm_get (ci := 12) (C := RX12) (T := TX12) (N := 54) (v := .ref (adr (a0 + 5))) hx hb hts hin12 hown hE hP ha0 rfl rfl 9 (by decide) (hts (.fieldLink RX12 38 "OrderMoverModel" "powersI" "[I") (by decide +kernel)) (fun _ h9 => h9) rfl dX12_dropsNoughts_59 ?_
      refine lv_iload_n hx hb dX12_dropsNoughts_62 rfl (lv_at hl 3 rfl) ?_
      obtain ⟨c63_2369, h⟩ := sm_ck h
      refine sm_iald hx hb hE hP (t12_9 ha0) c63_2369 dX12_dropsNoughts_63 ?_
      obtain ⟨c64_2370, h⟩ := sm_ck h
      refine sm_iast hx hb hE hJ hP hS (t12_9 ha0) c64_2370 dX12_dropsNoughts_64 (fun H locs hP hS => ?_)
      obtain ⟨M64_2371, hM, h⟩ := sm_lt h
      rw [← hM] at hP; clear hM
      refine lv_aload_n hx hb dX12_dropsNoughts_65 rfl (lv_at hl 0 rfl) ?_
      refine sm_get (ci := 12) (C := RX12) (T := TX12) (N := 54) (v := .ref (adr (a0 + 6))) hx hb hts hin12 hown hE hP ha0 rfl rfl 10 (by decide) (hts (.fieldLink RX12 41 "OrderMoverModel" "powersJ" "[I") (by decide +kernel)) (fun _ h9 => h9) rfl dX12_dropsNoughts_66 ?_
      refine lv_bipush (v := (8 : Int32)) hx hb dX12_dropsNoughts_69 (by decide) ?_
      refine lv_iload_n hx hb dX12_dropsNoughts_71 rfl (lv_at hl 1 rfl) ?_
      refine lv_imul hx hb dX12_dropsNoughts_72 ?_
      refine lv_iload_n hx hb dX12_dropsNoughts_73 rfl (lv_at hl 2 rfl) ?_
      refine lv_iadd hx hb dX12_dropsNoughts_74 ?_
      refine lv_aload_n hx hb dX12_dropsNoughts_75 rfl (lv_at hl 0 rfl) ?_
      refine sm_get (ci := 12) (C := RX12) (T := TX12) (N := 54) (v := .ref (adr (a0 + 6))) hx hb hts hin12 hown hE hP ha0 rfl rfl 10 (by decide) (hts (.fieldLink RX12 41 "OrderMoverModel" "powersJ" "[I") (by decide +kernel)) (fun _ h9 => h9) rfl dX12_dropsNoughts_76 ?_
      refine lv_iload_n hx hb dX12_dropsNoughts_79 rfl (lv_at hl 3 rfl) ?_
      obtain ⟨c80_2372, h⟩ := sm_ck h
      refine sm_iald hx hb hE hP (t12_10 ha0) c80_2372 dX12_dropsNoughts_80 ?_
      obtain ⟨c81_2373, h⟩ := sm_ck h
      refine sm_iast hx hb hE hJ hP hS (t12_10 ha0) c81_2373 dX12_dropsNoughts_81 (fun H locs hP hS => ?_)
      obtain ⟨M81_2374, hM, h⟩ := sm_lt h
      rw [← hM] at hP; clear hM
      refine lv_iinc (v := (x2_7_2355 + (1 : Int32))) (lv' := [(2, .int (x2_7_2355 + (1 : Int32))), (0, .ref (adr a0)), (1, .int x1), (3, .int x3_7_2356)]) hx hb dX12_dropsNoughts_82 hl (k := 2) rfl (congrArg (fun z => x2_7_2355 + z) (by decide)) (by decide) rfl (fun ls hl => ?_)
      refine lv_iinc (v := (x3_7_2356 + (1 : Int32))) (lv' := [(3, .int (x3_7_2356 + (1 : Int32))), (2, .int (x2_7_2355 + (1 : Int32))), (0, .ref (adr a0)), (1, .int x1)]) hx hb dX12_dropsNoughts_85 hl (k := 3) rfl (congrArg (fun z => x3_7_2356 + z) (by decide)) (by decide) rfl (fun ls hl => ?_)
      refine lv_goto (tgt := 7) hx hb dX12_dropsNoughts_88 (by decide) ?_
      exact ih7_2359 ((x2_7_2355 + (1 : Int32)), (x3_7_2356 + (1 : Int32)), M81_2374) _ _ _ h ⟨hP, hS, lv_sub hl [2, 3, 1, 0] rfl⟩
