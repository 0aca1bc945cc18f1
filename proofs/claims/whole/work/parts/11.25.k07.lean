set_option maxHeartbeats 4000000 in
set_option maxRecDepth 100000 in
theorem k_X5_insert (l : Launch) (D : va_G) (cA : Nat → ClassId) (adr : Nat → Nat) (hJ : smJ 1 adr) (a0 : Nat) (x1 : Int32) (x2 : Int32) (x3 : Int32) (x4 : Int32) (ha0 : smT 1 a0 5) (M : smM) (M1 : smM) (h : m_X5_insert a0 x1 x2 x3 x4 M = some M1) : Met l yX5_insert wsX5_insert ({ frames := 0, cells := 0, slots := 0, locals := 0 }) (smPc D cA 1 adr M [.ref (adr a0), .int x1, .int x2, .int x3, .int x4]) (smQv D cA 1 adr M1) 0 0 (smA 1 adr) := by
  refine Met.ofW (cc := cX5_insert) (maxL := 6) (ret := none) (by decide) rfl ?_
  intro p e s m args below meth c s₁ B hml hv
  obtain ⟨rfl, hE, hP⟩ := hv
  have hx := B.exec
  have hb := B.bytes
  have hr := B.returns
  have hts := atoms_spec (ws := wsX5_insert) B.pre
  have hown : s.vm.findClass RX5 = some m.cls := findClass_of_methodNamed B.named
  have hlocks := B.notSynchronized
  have hS : va_S (smA 1 adr) s.heap s.heap [] := va_S.rf
  have hP : smP D cA 1 adr M s.heap := hP
  have hl := lv_entry ([.ref (adr a0), .int x1, .int x2, .int x3, .int x4]) (n := 6) (Nat.le_of_ble_eq_true rfl)
  rw [lg_entry_eq]
  generalize (lg_sl ([.ref (adr a0), .int x1, .int x2, .int x3, .int x4]) ++ List.replicate (6 - (lg_sl ([.ref (adr a0), .int x1, .int x2, .int x3, .int x4])).length) Slot.unset).toArray = ls at hl ⊢
  have hl : lv_has ls 6 [(0, .ref (adr a0)), (1, .int x1), (2, .int x2), (3, .int x3), (4, .int x4)] := hl
  unfold m_X5_insert at h
  have hin5 : ∀ w ∈ u_ws RX5 TX5 4, w ∈ wsX5_insert := by decide +kernel
  refine lv_aload_n hx hb dX5_insert_0 rfl (lv_at hl 0 rfl) ?_
  refine sm_get (ci := 5) (C := RX5) (T := TX5) (N := 4) (v := .int (M a0 0)) hx hb hts hin5 hown hE hP ha0 rfl rfl 0 (by decide) (hts (.fieldLink RX5 27 "OrderMover$Polynomial" "howMany" "I") (by decide +kernel)) (fun _ h9 => h9) rfl dX5_insert_1 ?_
  refine lv_istore (lv' := [(5, .int (M a0 0)), (0, .ref (adr a0)), (1, .int x1), (2, .int x2), (3, .int x3), (4, .int x4)]) hx hb dX5_insert_4 hl (by decide) rfl (fun ls hl => ?_)
  refine sm_lp (b := fun rc q => m_X5_insert_b6 a0 x1 x2 x3 x4 rc q.1 q.2) (P := fun (q : Int32 × smM) H locs ls => smP D cA 1 adr q.2 H ∧ va_S (smA 1 adr) s.heap H locs ∧ lv_has ls 6 [(0, .ref (adr a0)), (1, .int x1), (2, .int x2), (3, .int x3), (4, .int x4), (5, .int q.1)]) (pc := 6) ?_ _ _ _ _ _ h ⟨hP, hS, lv_sub hl [1, 2, 3, 4, 5, 0] rfl⟩
  intro rc6_865 ih6_866 q H locs ls h hI
  obtain ⟨x5_6_863, M6_864⟩ := q
  obtain ⟨hP, hS, hl⟩ := hI
  have hP : smP D cA 1 adr M6_864 H := hP
  have hl : lv_has ls 6 [(0, .ref (adr a0)), (1, .int x1), (2, .int x2), (3, .int x3), (4, .int x4), (5, .int x5_6_863)] := hl
  have h : m_X5_insert_b6 a0 x1 x2 x3 x4 rc6_865 x5_6_863 M6_864 = some _ := h
  unfold m_X5_insert_b6 at h
  refine lv_iload hx hb dX5_insert_6 (lv_at hl 5 rfl) ?_
  refine lv_iload_n hx hb dX5_insert_8 rfl (lv_at hl 1 rfl) ?_
  refine lv_icmp_le (tgt := 66) hx hb dX5_insert_9 (by decide) (fun c9_867 => ?_) (fun c9_867 => ?_)
  · rw [if_pos c9_867] at h
    refine lv_aload_n hx hb dX5_insert_66 rfl (lv_at hl 0 rfl) ?_
    refine sm_get (ci := 5) (C := RX5) (T := TX5) (N := 4) (v := .ref (adr (a0 + 1))) hx hb hts hin5 hown hE hP ha0 rfl rfl 1 (by decide) (hts (.fieldLink RX5 15 "OrderMover$Polynomial" "numbers" "[I") (by decide +kernel)) (fun _ h9 => h9) rfl dX5_insert_67 ?_
    refine lv_iload_n hx hb dX5_insert_70 rfl (lv_at hl 1 rfl) ?_
    refine lv_iload_n hx hb dX5_insert_71 rfl (lv_at hl 2 rfl) ?_
    obtain ⟨c72_868, h⟩ := sm_ck h
    refine sm_iast hx hb hE hJ hP hS (t5_1 ha0) c72_868 dX5_insert_72 (fun H locs hP hS => ?_)
    obtain ⟨M72_869, hM, h⟩ := sm_lt h
    rw [← hM] at hP; clear hM
    refine lv_aload_n hx hb dX5_insert_73 rfl (lv_at hl 0 rfl) ?_
    refine sm_get (ci := 5) (C := RX5) (T := TX5) (N := 4) (v := .ref (adr (a0 + 2))) hx hb hts hin5 hown hE hP ha0 rfl rfl 2 (by decide) (hts (.fieldLink RX5 21 "OrderMover$Polynomial" "xs" "[I") (by decide +kernel)) (fun _ h9 => h9) rfl dX5_insert_74 ?_
    refine lv_iload_n hx hb dX5_insert_77 rfl (lv_at hl 1 rfl) ?_
    refine lv_iload_n hx hb dX5_insert_78 rfl (lv_at hl 3 rfl) ?_
    obtain ⟨c79_870, h⟩ := sm_ck h
    refine sm_iast hx hb hE hJ hP hS (t5_2 ha0) c79_870 dX5_insert_79 (fun H locs hP hS => ?_)
    obtain ⟨M79_871, hM, h⟩ := sm_lt h
    rw [← hM] at hP; clear hM
    refine lv_aload_n hx hb dX5_insert_80 rfl (lv_at hl 0 rfl) ?_
    refine sm_get (ci := 5) (C := RX5) (T := TX5) (N := 4) (v := .ref (adr (a0 + 3))) hx hb hts hin5 hown hE hP ha0 rfl rfl 3 (by decide) (hts (.fieldLink RX5 24 "OrderMover$Polynomial" "ys" "[I") (by decide +kernel)) (fun _ h9 => h9) rfl dX5_insert_81 ?_
    refine lv_iload_n hx hb dX5_insert_84 rfl (lv_at hl 1 rfl) ?_
    refine lv_iload hx hb dX5_insert_85 (lv_at hl 4 rfl) ?_
    obtain ⟨c87_872, h⟩ := sm_ck h
    refine sm_iast hx hb hE hJ hP hS (t5_3 ha0) c87_872 dX5_insert_87 (fun H locs hP hS => ?_)
    obtain ⟨M87_873, hM, h⟩ := sm_lt h
    rw [← hM] at hP; clear hM
    refine lv_aload_n hx hb dX5_insert_88 rfl (lv_at hl 0 rfl) ?_
    refine lv_dup hx hb dX5_insert_89 rfl ?_
    refine sm_get (ci := 5) (C := RX5) (T := TX5) (N := 4) (v := .int (M87_873 a0 0)) hx hb hts hin5 hown hE hP ha0 rfl rfl 0 (by decide) (hts (.fieldLink RX5 27 "OrderMover$Polynomial" "howMany" "I") (by decide +kernel)) (fun _ h9 => h9) rfl dX5_insert_90 ?_
    refine lv_iconst (v := (1 : Int32)) hx hb dX5_insert_93 (by decide) ?_
    refine lv_iadd hx hb dX5_insert_94 ?_
    refine sm_put (ci := 5) (C := RX5) (T := TX5) (N := 4) (ty := .int) hx hb hts hin5 tyX5 tyX5_ok nmX5 hown hE hJ hP hS ha0 rfl rfl 0 (by decide) (hts (.fieldLink RX5 27 "OrderMover$Polynomial" "howMany" "I") (by decide +kernel)) (fun _ h9 => h9) rfl (by decide +kernel) rfl rfl (Nat.le_of_ble_eq_true rfl) rfl dX5_insert_95 (fun H locs hP hS => ?_)
    obtain ⟨M95_874, hM, h⟩ := sm_lt h
    rw [← hM] at hP; clear hM
    cases h
    exact sm_vret hx hb hr hlocks hP hS dX5_insert_98
  · rw [if_neg c9_867] at h
    refine lv_aload_n hx hb dX5_insert_12 rfl (lv_at hl 0 rfl) ?_
    refine sm_get (ci := 5) (C := RX5) (T := TX5) (N := 4) (v := .ref (adr (a0 + 1))) hx hb hts hin5 hown hE hP ha0 rfl rfl 1 (by decide) (hts (.fieldLink RX5 15 "OrderMover$Polynomial" "numbers" "[I") (by decide +kernel)) (fun _ h9 => h9) rfl dX5_insert_13 ?_
    refine lv_iload hx hb dX5_insert_16 (lv_at hl 5 rfl) ?_
    refine lv_aload_n hx hb dX5_insert_18 rfl (lv_at hl 0 rfl) ?_
    refine sm_get (ci := 5) (C := RX5) (T := TX5) (N := 4) (v := .ref (adr (a0 + 1))) hx hb hts hin5 hown hE hP ha0 rfl rfl 1 (by decide) (hts (.fieldLink RX5 15 "OrderMover$Polynomial" "numbers" "[I") (by decide +kernel)) (fun _ h9 => h9) rfl dX5_insert_19 ?_
    refine lv_iload hx hb dX5_insert_22 (lv_at hl 5 rfl) ?_
    refine lv_iconst (v := (1 : Int32)) hx hb dX5_insert_24 (by decide) ?_
    refine lv_isub hx hb dX5_insert_25 ?_
    obtain ⟨c26_875, h⟩ := sm_ck h
    refine sm_iald hx hb hE hP (t5_1 ha0) c26_875 dX5_insert_26 ?_
    obtain ⟨c27_876, h⟩ := sm_ck h
    refine sm_iast hx hb hE hJ hP hS (t5_1 ha0) c27_876 dX5_insert_27 (fun H locs hP hS => ?_)
    obtain ⟨M27_877, hM, h⟩ := sm_lt h
    rw [← hM] at hP; clear hM
    refine lv_aload_n hx hb dX5_insert_28 rfl (lv_at hl 0 rfl) ?_
    refine sm_get (ci := 5) (C := RX5) (T := TX5) (N := 4) (v := .ref (adr (a0 + 2))) hx hb hts hin5 hown hE hP ha0 rfl rfl 2 (by decide) (hts (.fieldLink RX5 21 "OrderMover$Polynomial" "xs" "[I") (by decide +kernel)) (fun _ h9 => h9) rfl dX5_insert_29 ?_
    refine lv_iload hx hb dX5_insert_32 (lv_at hl 5 rfl) ?_
    refine lv_aload_n hx hb dX5_insert_34 rfl (lv_at hl 0 rfl) ?_
    refine sm_get (ci := 5) (C := RX5) (T := TX5) (N := 4) (v := .ref (adr (a0 + 2))) hx hb hts hin5 hown hE hP ha0 rfl rfl 2 (by decide) (hts (.fieldLink RX5 21 "OrderMover$Polynomial" "xs" "[I") (by decide +kernel)) (fun _ h9 => h9) rfl dX5_insert_35 ?_
    refine lv_iload hx hb dX5_insert_38 (lv_at hl 5 rfl) ?_
    refine lv_iconst (v := (1 : Int32)) hx hb dX5_insert_40 (by decide) ?_
    refine lv_isub hx hb dX5_insert_41 ?_
    obtain ⟨c42_878, h⟩ := sm_ck h
    refine sm_iald hx hb hE hP (t5_2 ha0) c42_878 dX5_insert_42 ?_
    obtain ⟨c43_879, h⟩ := sm_ck h
    refine sm_iast hx hb hE hJ hP hS (t5_2 ha0) c43_879 dX5_insert_43 (fun H locs hP hS => ?_)
    obtain ⟨M43_880, hM, h⟩ := sm_lt h
    rw [← hM] at hP; clear hM
    refine lv_aload_n hx hb dX5_insert_44 rfl (lv_at hl 0 rfl) ?_
    refine sm_get (ci := 5) (C := RX5) (T := TX5) (N := 4) (v := .ref (adr (a0 + 3))) hx hb hts hin5 hown hE hP ha0 rfl rfl 3 (by decide) (hts (.fieldLink RX5 24 "OrderMover$Polynomial" "ys" "[I") (by decide +kernel)) (fun _ h9 => h9) rfl dX5_insert_45 ?_
    refine lv_iload hx hb dX5_insert_48 (lv_at hl 5 rfl) ?_
    refine lv_aload_n hx hb dX5_insert_50 rfl (lv_at hl 0 rfl) ?_
    refine sm_get (ci := 5) (C := RX5) (T := TX5) (N := 4) (v := .ref (adr (a0 + 3))) hx hb hts hin5 hown hE hP ha0 rfl rfl 3 (by decide) (hts (.fieldLink RX5 24 "OrderMover$Polynomial" "ys" "[I") (by decide +kernel)) (fun _ h9 => h9) rfl dX5_insert_51 ?_
    refine lv_iload hx hb dX5_insert_54 (lv_at hl 5 rfl) ?_
    refine lv_iconst (v := (1 : Int32)) hx hb dX5_insert_56 (by decide) ?_
    refine lv_isub hx hb dX5_insert_57 ?_
    obtain ⟨c58_881, h⟩ := sm_ck h
    refine sm_iald hx hb hE hP (t5_3 ha0) c58_881 dX5_insert_58 ?_
    obtain ⟨c59_882, h⟩ := sm_ck h
    refine sm_iast hx hb hE hJ hP hS (t5_3 ha0) c59_882 dX5_insert_59 (fun H locs hP hS => ?_)
    obtain ⟨M59_883, hM, h⟩ := sm_lt h
    rw [← hM] at hP; clear hM
    refine lv_iinc (v := (x5_6_863 + (-1 : Int32))) (lv' := [(5, .int (x5_6_863 + (-1 : Int32))), (0, .ref (adr a0)), (1, .int x1), (2, .int x2), (3, .int x3), (4, .int x4)]) hx hb dX5_insert_60 hl (k := 5) rfl (congrArg (fun z => x5_6_863 + z) (by decide)) (by decide) rfl (fun ls hl => ?_)
    refine lv_goto (tgt := 6) hx hb dX5_insert_63 (by decide) ?_
    exact ih6_866 ((x5_6_863 + (-1 : Int32)), M59_883) _ _ _ h ⟨hP, hS, lv_sub hl [1, 2, 3, 4, 5, 0] rfl⟩
set_option maxHeartbeats 4000000 in
set_option maxRecDepth 100000 in
theorem k_X5_bring (l : Launch) (D : va_G) (cA : Nat → ClassId) (adr : Nat → Nat) (hJ : smJ 1 adr) (a0 : Nat) (x1 : Int32) (x2 : Int32) (x3 : Int32) (x4 : Int32) (ha0 : smT 1 a0 5) (M : smM) (M1 : smM) (h : m_X5_bring a0 x1 x2 x3 x4 M = some M1) : Met l yX5_bring wsX5_bring ({ frames := 1, cells := 0, slots := 0, locals := 25 }) (smPc D cA 1 adr M [.ref (adr a0), .int x1, .int x2, .int x3, .int x4]) (smQv D cA 1 adr M1) 0 0 (smA 1 adr) := by
  refine Met.ofW (cc := cX5_bring) (maxL := 6) (ret := none) (by decide) rfl ?_
  intro p e s m args below meth c s₁ B hml hv
  obtain ⟨rfl, hE, hP⟩ := hv
  have hx := B.exec
  have hb := B.bytes
  have hr := B.returns
  have hts := atoms_spec (ws := wsX5_bring) B.pre
  have hown : s.vm.findClass RX5 = some m.cls := findClass_of_methodNamed B.named
  have hlocks := B.notSynchronized
  have hS : va_S (smA 1 adr) s.heap s.heap [] := va_S.rf
  have hP : smP D cA 1 adr M s.heap := hP
  have hl := lv_entry ([.ref (adr a0), .int x1, .int x2, .int x3, .int x4]) (n := 6) (Nat.le_of_ble_eq_true rfl)
  rw [lg_entry_eq]
  generalize (lg_sl ([.ref (adr a0), .int x1, .int x2, .int x3, .int x4]) ++ List.replicate (6 - (lg_sl ([.ref (adr a0), .int x1, .int x2, .int x3, .int x4])).length) Slot.unset).toArray = ls at hl ⊢
  have hl : lv_has ls 6 [(0, .ref (adr a0)), (1, .int x1), (2, .int x2), (3, .int x3), (4, .int x4)] := hl
  unfold m_X5_bring at h
  have hin5 : ∀ w ∈ u_ws RX5 TX5 4, w ∈ wsX5_bring := by decide +kernel
  refine lv_iconst (v := (0 : Int32)) hx hb dX5_bring_0 (by decide) ?_
  refine lv_istore (lv' := [(5, .int (0 : Int32)), (0, .ref (adr a0)), (1, .int x1), (2, .int x2), (3, .int x3), (4, .int x4)]) hx hb dX5_bring_1 hl (by decide) rfl (fun ls hl => ?_)
  refine sm_lp (b := fun rc q => m_X5_bring_b3 a0 x1 x2 x3 x4 M rc q) (P := fun (q : Int32) H locs ls => smP D cA 1 adr M H ∧ va_S (smA 1 adr) s.heap H locs ∧ lv_has ls 6 [(0, .ref (adr a0)), (1, .int x1), (2, .int x2), (3, .int x3), (4, .int x4), (5, .int q)]) (pc := 3) ?_ _ _ _ _ _ h ⟨hP, hS, lv_sub hl [1, 2, 3, 4, 5, 0] rfl⟩
  intro rc3_885 ih3_886 q H locs ls h hI
  obtain ⟨x5_3_884, hq⟩ : ∃ y, y = q := ⟨_, rfl⟩; subst hq
  obtain ⟨hP, hS, hl⟩ := hI
  have hP : smP D cA 1 adr M H := hP
  have hl : lv_has ls 6 [(0, .ref (adr a0)), (1, .int x1), (2, .int x2), (3, .int x3), (4, .int x4), (5, .int x5_3_884)] := hl
  have h : m_X5_bring_b3 a0 x1 x2 x3 x4 M rc3_885 x5_3_884 = some _ := h
  unfold m_X5_bring_b3 at h
  refine lv_iload hx hb dX5_bring_3 (lv_at hl 5 rfl) ?_
  refine lv_aload_n hx hb dX5_bring_5 rfl (lv_at hl 0 rfl) ?_
  refine sm_get (ci := 5) (C := RX5) (T := TX5) (N := 4) (v := .int (M a0 0)) hx hb hts hin5 hown hE hP ha0 rfl rfl 0 (by decide) (hts (.fieldLink RX5 27 "OrderMover$Polynomial" "howMany" "I") (by decide +kernel)) (fun _ h9 => h9) rfl dX5_bring_6 ?_
  refine sm_jn (x := M1) (T := fun (q : Unit) => m_X5_bring_j51 a0 x1 x2 x3 x4 x5_3_884 M rc3_885) (P := fun (q : Unit) H locs ls => smP D cA 1 adr M H ∧ va_S (smA 1 adr) s.heap H locs ∧ lv_has ls 6 [(0, .ref (adr a0)), (1, .int x1), (2, .int x2), (3, .int x3), (4, .int x4), (5, .int x5_3_884)]) (st := fun (q : Unit) => []) (pc := 51) ?_ (fun J51_887 => ?_)
  · intro q H locs ls h hI
    obtain ⟨hP, hS, hl⟩ := hI
    have hP : smP D cA 1 adr M H := hP
    have hl : lv_has ls 6 [(0, .ref (adr a0)), (1, .int x1), (2, .int x2), (3, .int x3), (4, .int x4), (5, .int x5_3_884)] := hl
    have h : m_X5_bring_j51 a0 x1 x2 x3 x4 x5_3_884 M rc3_885 = some _ := h
    unfold m_X5_bring_j51 at h
    refine W.eq (g2 := F0 m 51 ls []) rfl ?_
    refine lv_iload hx hb dX5_bring_51 (lv_at hl 5 rfl) ?_
    refine lv_aload_n hx hb dX5_bring_53 rfl (lv_at hl 0 rfl) ?_
    refine sm_get (ci := 5) (C := RX5) (T := TX5) (N := 4) (v := .int (M a0 0)) hx hb hts hin5 hown hE hP ha0 rfl rfl 0 (by decide) (hts (.fieldLink RX5 27 "OrderMover$Polynomial" "howMany" "I") (by decide +kernel)) (fun _ h9 => h9) rfl dX5_bring_54 ?_
    refine sm_jn (x := M1) (T := fun (q : Unit) => m_X5_bring_j110 a0 x1 x2 x3 x5_3_884 M rc3_885) (P := fun (q : Unit) H locs ls => smP D cA 1 adr M H ∧ va_S (smA 1 adr) s.heap H locs ∧ lv_has ls 6 [(0, .ref (adr a0)), (1, .int x1), (2, .int x2), (3, .int x3), (5, .int x5_3_884)]) (st := fun (q : Unit) => []) (pc := 110) ?_ (fun J110_888 => ?_)
    · intro q H locs ls h hI
      obtain ⟨hP, hS, hl⟩ := hI
      have hP : smP D cA 1 adr M H := hP
      have hl : lv_has ls 6 [(0, .ref (adr a0)), (1, .int x1), (2, .int x2), (3, .int x3), (5, .int x5_3_884)] := hl
      have h : m_X5_bring_j110 a0 x1 x2 x3 x5_3_884 M rc3_885 = some _ := h
      unfold m_X5_bring_j110 at h
      refine W.eq (g2 := F0 m 110 ls []) rfl ?_
      refine lv_iload_n hx hb dX5_bring_110 rfl (lv_at hl 1 rfl) ?_
      refine lv_if_eq (tgt := 135) hx hb dX5_bring_111 (by decide) (fun c111_889 => ?_) (fun c111_889 => ?_)
      · rw [if_pos c111_889] at h
        cases h
        exact sm_vret hx hb hr hlocks hP hS dX5_bring_135
      · rw [if_neg c111_889] at h
        refine lv_aload_n hx hb dX5_bring_114 rfl (lv_at hl 0 rfl) ?_
        refine sm_get (ci := 5) (C := RX5) (T := TX5) (N := 4) (v := .int (M a0 0)) hx hb hts hin5 hown hE hP ha0 rfl rfl 0 (by decide) (hts (.fieldLink RX5 27 "OrderMover$Polynomial" "howMany" "I") (by decide +kernel)) (fun _ h9 => h9) rfl dX5_bring_115 ?_
        refine lv_aload_n hx hb dX5_bring_118 rfl (lv_at hl 0 rfl) ?_
        refine sm_get (ci := 5) (C := RX5) (T := TX5) (N := 4) (v := .ref (adr (a0 + 1))) hx hb hts hin5 hown hE hP ha0 rfl rfl 1 (by decide) (hts (.fieldLink RX5 15 "OrderMover$Polynomial" "numbers" "[I") (by decide +kernel)) (fun _ h9 => h9) rfl dX5_bring_119 ?_
        refine sm_alen hx hb hE hP (t5_1 ha0) dX5_bring_122 ?_
        refine lv_icmp_ge (tgt := 135) hx hb dX5_bring_123 (by decide) (fun c123_890 => ?_) (fun c123_890 => ?_)
        · rw [if_pos c123_890] at h
          cases h
          exact sm_vret hx hb hr hlocks hP hS dX5_bring_135
        · rw [if_neg c123_890] at h
          refine lv_aload_n hx hb dX5_bring_126 rfl (lv_at hl 0 rfl) ?_
          refine lv_iload hx hb dX5_bring_127 (lv_at hl 4 rfl) ?_
          refine lv_iload_n hx hb dX5_bring_129 rfl (lv_at hl 1 rfl) ?_
          refine lv_iload_n hx hb dX5_bring_130 rfl (lv_at hl 2 rfl) ?_
          refine lv_iload_n hx hb dX5_bring_131 rfl (lv_at hl 3 rfl) ?_
          obtain ⟨M132_892, hc132_893, h⟩ := sm_bd h
          refine sm_cv (va_runV (As := [.int x5_3_884, .int x1, .int x2, .int x3]) (rest := []) ⟨hx, hb, hml, hown, hts⟩ (k_X5_insert l D cA adr hJ a0 x5_3_884 x1 x2 x3 ha0 M M132_892 hc132_893) (cwV 4 hts gX5_bring_X5_insert rfl rfl rfl (by decide +kernel) ⟨Nat.le_of_ble_eq_true rfl, Nat.le_of_ble_eq_true rfl⟩) ⟨smPc_bl, smRv hE hP ha0 rfl (ci := 5) (q := (RX5, TX5, 4)) rfl, smPc_in [.ref (adr a0), .int x5_3_884, .int x1, .int x2, .int x3] hE hP⟩ rfl rfl hl.1 rfl (lv_room (Nat.le_of_ble_eq_true rfl)) dX5_bring_132 ⟨Nat.zero_le _, Nat.zero_le _⟩) hS (fun H locs hP hS => ?_)
          cases h
          exact sm_vret hx hb hr hlocks hP hS dX5_bring_135
    refine lv_icmp_ge (tgt := 110) hx hb dX5_bring_57 (by decide) (fun c57_894 => ?_) (fun c57_894 => ?_)
    · rw [if_pos c57_894] at h
      exact J110_888 () _ _ _ h ⟨hP, hS, lv_sub hl [0, 1, 2, 3, 5] rfl⟩
    · rw [if_neg c57_894] at h
      refine lv_aload_n hx hb dX5_bring_60 rfl (lv_at hl 0 rfl) ?_
      refine sm_get (ci := 5) (C := RX5) (T := TX5) (N := 4) (v := .ref (adr (a0 + 2))) hx hb hts hin5 hown hE hP ha0 rfl rfl 2 (by decide) (hts (.fieldLink RX5 21 "OrderMover$Polynomial" "xs" "[I") (by decide +kernel)) (fun _ h9 => h9) rfl dX5_bring_61 ?_
      refine lv_iload hx hb dX5_bring_64 (lv_at hl 5 rfl) ?_
      obtain ⟨c66_895, h⟩ := sm_ck h
      refine sm_iald hx hb hE hP (t5_2 ha0) c66_895 dX5_bring_66 ?_
      refine lv_iload_n hx hb dX5_bring_67 rfl (lv_at hl 2 rfl) ?_
      refine lv_icmp_ne (tgt := 110) hx hb dX5_bring_68 (by decide) (fun c68_896 => ?_) (fun c68_896 => ?_)
      · rw [if_neg c68_896] at h
        exact J110_888 () _ _ _ h ⟨hP, hS, lv_sub hl [0, 1, 2, 3, 5] rfl⟩
      · rw [if_pos c68_896] at h
        refine lv_aload_n hx hb dX5_bring_71 rfl (lv_at hl 0 rfl) ?_
        refine sm_get (ci := 5) (C := RX5) (T := TX5) (N := 4) (v := .ref (adr (a0 + 3))) hx hb hts hin5 hown hE hP ha0 rfl rfl 3 (by decide) (hts (.fieldLink RX5 24 "OrderMover$Polynomial" "ys" "[I") (by decide +kernel)) (fun _ h9 => h9) rfl dX5_bring_72 ?_
        refine lv_iload hx hb dX5_bring_75 (lv_at hl 5 rfl) ?_
        obtain ⟨c77_897, h⟩ := sm_ck h
        refine sm_iald hx hb hE hP (t5_3 ha0) c77_897 dX5_bring_77 ?_
        refine lv_iload_n hx hb dX5_bring_78 rfl (lv_at hl 3 rfl) ?_
        refine lv_icmp_ne (tgt := 110) hx hb dX5_bring_79 (by decide) (fun c79_898 => ?_) (fun c79_898 => ?_)
        · rw [if_neg c79_898] at h
          exact J110_888 () _ _ _ h ⟨hP, hS, lv_sub hl [0, 1, 2, 3, 5] rfl⟩
        · rw [if_pos c79_898] at h
          refine lv_aload_n hx hb dX5_bring_82 rfl (lv_at hl 0 rfl) ?_
          refine sm_get (ci := 5) (C := RX5) (T := TX5) (N := 4) (v := .ref (adr (a0 + 1))) hx hb hts hin5 hown hE hP ha0 rfl rfl 1 (by decide) (hts (.fieldLink RX5 15 "OrderMover$Polynomial" "numbers" "[I") (by decide +kernel)) (fun _ h9 => h9) rfl dX5_bring_83 ?_
          refine lv_iload hx hb dX5_bring_86 (lv_at hl 5 rfl) ?_
          refine lv_aload_n hx hb dX5_bring_88 rfl (lv_at hl 0 rfl) ?_
          refine sm_get (ci := 5) (C := RX5) (T := TX5) (N := 4) (v := .ref (adr (a0 + 1))) hx hb hts hin5 hown hE hP ha0 rfl rfl 1 (by decide) (hts (.fieldLink RX5 15 "OrderMover$Polynomial" "numbers" "[I") (by decide +kernel)) (fun _ h9 => h9) rfl dX5_bring_89 ?_
          refine lv_iload hx hb dX5_bring_92 (lv_at hl 5 rfl) ?_
          obtain ⟨c94_899, h⟩ := sm_ck h
          refine sm_iald hx hb hE hP (t5_1 ha0) c94_899 dX5_bring_94 ?_
          refine lv_iload_n hx hb dX5_bring_95 rfl (lv_at hl 1 rfl) ?_
          refine lv_iadd hx hb dX5_bring_96 ?_
          refine lv_iload hx hb dX5_bring_97 (lv_at hl 4 rfl) ?_
          obtain ⟨v99_900, hc99_902, h⟩ := sm_bd h
          refine sm_ci (va_runSN (As := [.int ((M (a0 + 1) (x5_3_884).toNatClampNeg) + x1), .int x4]) (rest := [.int x5_3_884, .ref (adr (a0 + 1))]) ⟨hx, hb, hml, hown, hts⟩ (k_X11_leftOver l D cA adr hJ ((M (a0 + 1) (x5_3_884).toNatClampNeg) + x1) x4  M v99_900 hc99_902) ⟨va_cnB (host := "OrderMover") 2 hts gX5_bring_X11_leftOver_n34 rfl rfl rfl (hE.2 (RX5, 34, yX11_leftOver, "OrderMover") (by decide +kernel)) (hts (.initialized RX11) (by decide +kernel)) (by decide +kernel) ⟨Nat.le_of_ble_eq_true rfl, Nat.le_of_ble_eq_true rfl⟩, hts (.static yX11_leftOver) (by decide +kernel), trivial⟩ ⟨smPc_bl, smPc_in [.int ((M (a0 + 1) (x5_3_884).toNatClampNeg) + x1), .int x4] hE hP⟩ rfl rfl hl.1 rfl (lv_room (Nat.le_of_ble_eq_true rfl)) dX5_bring_99 ⟨Nat.zero_le _, Nat.zero_le _⟩) hS (fun H locs hP hS => ?_)
          obtain ⟨c102_903, h⟩ := sm_ck h
          refine sm_iast hx hb hE hJ hP hS (t5_1 ha0) c102_903 dX5_bring_102 (fun H locs hP hS => ?_)
          obtain ⟨M102_904, hM, h⟩ := sm_lt h
          rw [← hM] at hP; clear hM
          refine lv_aload_n hx hb dX5_bring_103 rfl (lv_at hl 0 rfl) ?_
          obtain ⟨M104_906, hc104_907, h⟩ := sm_bd h
          refine sm_cv (va_runV (As := []) (rest := []) ⟨hx, hb, hml, hown, hts⟩ (k_X5_takeZerosAway l D cA adr hJ a0 ha0 M102_904 M104_906 hc104_907) (cwV 0 hts gX5_bring_X5_takeZerosAway rfl rfl rfl (by decide +kernel) ⟨Nat.le_of_ble_eq_true rfl, Nat.le_of_ble_eq_true rfl⟩) ⟨smPc_bl, smRv hE hP ha0 rfl (ci := 5) (q := (RX5, TX5, 4)) rfl, smPc_in [.ref (adr a0)] hE hP⟩ rfl rfl hl.1 rfl (lv_room (Nat.le_of_ble_eq_true rfl)) dX5_bring_104 ⟨Nat.zero_le _, Nat.zero_le _⟩) hS (fun H locs hP hS => ?_)
          refine lv_goto (tgt := 135) hx hb dX5_bring_107 (by decide) ?_
          cases h
          exact sm_vret hx hb hr hlocks hP hS dX5_bring_135
  refine lv_icmp_ge (tgt := 51) hx hb dX5_bring_9 (by decide) (fun c9_908 => ?_) (fun c9_908 => ?_)
  · rw [if_pos c9_908] at h
    exact J51_887 () _ _ _ h ⟨hP, hS, lv_sub hl [0, 1, 2, 3, 4, 5] rfl⟩
  · rw [if_neg c9_908] at h
    refine lv_aload_n hx hb dX5_bring_12 rfl (lv_at hl 0 rfl) ?_
    refine sm_get (ci := 5) (C := RX5) (T := TX5) (N := 4) (v := .ref (adr (a0 + 2))) hx hb hts hin5 hown hE hP ha0 rfl rfl 2 (by decide) (hts (.fieldLink RX5 21 "OrderMover$Polynomial" "xs" "[I") (by decide +kernel)) (fun _ h9 => h9) rfl dX5_bring_13 ?_
    refine lv_iload hx hb dX5_bring_16 (lv_at hl 5 rfl) ?_
    obtain ⟨c18_909, h⟩ := sm_ck h
    refine sm_iald hx hb hE hP (t5_2 ha0) c18_909 dX5_bring_18 ?_
    refine lv_iload_n hx hb dX5_bring_19 rfl (lv_at hl 2 rfl) ?_
    refine lv_icmp_gt (tgt := 45) hx hb dX5_bring_20 (by decide) (fun c20_910 => ?_) (fun c20_910 => ?_)
    · rw [if_pos c20_910] at h
      refine lv_iinc (v := (x5_3_884 + (1 : Int32))) (lv' := [(5, .int (x5_3_884 + (1 : Int32))), (0, .ref (adr a0)), (1, .int x1), (2, .int x2), (3, .int x3), (4, .int x4)]) hx hb dX5_bring_45 hl (k := 5) rfl (congrArg (fun z => x5_3_884 + z) (by decide)) (by decide) rfl (fun ls hl => ?_)
      refine lv_goto (tgt := 3) hx hb dX5_bring_48 (by decide) ?_
      exact ih3_886 (x5_3_884 + (1 : Int32)) _ _ _ h ⟨hP, hS, lv_sub hl [1, 2, 3, 4, 5, 0] rfl⟩
    · rw [if_neg c20_910] at h
      refine lv_aload_n hx hb dX5_bring_23 rfl (lv_at hl 0 rfl) ?_
      refine sm_get (ci := 5) (C := RX5) (T := TX5) (N := 4) (v := .ref (adr (a0 + 2))) hx hb hts hin5 hown hE hP ha0 rfl rfl 2 (by decide) (hts (.fieldLink RX5 21 "OrderMover$Polynomial" "xs" "[I") (by decide +kernel)) (fun _ h9 => h9) rfl dX5_bring_24 ?_
      refine lv_iload hx hb dX5_bring_27 (lv_at hl 5 rfl) ?_
      obtain ⟨c29_911, h⟩ := sm_ck h
      refine sm_iald hx hb hE hP (t5_2 ha0) c29_911 dX5_bring_29 ?_
      refine lv_iload_n hx hb dX5_bring_30 rfl (lv_at hl 2 rfl) ?_
      refine lv_icmp_ne (tgt := 51) hx hb dX5_bring_31 (by decide) (fun c31_912 => ?_) (fun c31_912 => ?_)
      · rw [if_neg c31_912] at h
        exact J51_887 () _ _ _ h ⟨hP, hS, lv_sub hl [0, 1, 2, 3, 4, 5] rfl⟩
      · rw [if_pos c31_912] at h
        refine lv_aload_n hx hb dX5_bring_34 rfl (lv_at hl 0 rfl) ?_
        refine sm_get (ci := 5) (C := RX5) (T := TX5) (N := 4) (v := .ref (adr (a0 + 3))) hx hb hts hin5 hown hE hP ha0 rfl rfl 3 (by decide) (hts (.fieldLink RX5 24 "OrderMover$Polynomial" "ys" "[I") (by decide +kernel)) (fun _ h9 => h9) rfl dX5_bring_35 ?_
        refine lv_iload hx hb dX5_bring_38 (lv_at hl 5 rfl) ?_
        obtain ⟨c40_913, h⟩ := sm_ck h
        refine sm_iald hx hb hE hP (t5_3 ha0) c40_913 dX5_bring_40 ?_
        refine lv_iload_n hx hb dX5_bring_41 rfl (lv_at hl 3 rfl) ?_
        refine lv_icmp_le (tgt := 51) hx hb dX5_bring_42 (by decide) (fun c42_914 => ?_) (fun c42_914 => ?_)
        · rw [if_pos c42_914] at h
          exact J51_887 () _ _ _ h ⟨hP, hS, lv_sub hl [0, 1, 2, 3, 4, 5] rfl⟩
        · rw [if_neg c42_914] at h
          refine lv_iinc (v := (x5_3_884 + (1 : Int32))) (lv' := [(5, .int (x5_3_884 + (1 : Int32))), (0, .ref (adr a0)), (1, .int x1), (2, .int x2), (3, .int x3), (4, .int x4)]) hx hb dX5_bring_45 hl (k := 5) rfl (congrArg (fun z => x5_3_884 + z) (by decide)) (by decide) rfl (fun ls hl => ?_)
          refine lv_goto (tgt := 3) hx hb dX5_bring_48 (by decide) ?_
          exact ih3_886 (x5_3_884 + (1 : Int32)) _ _ _ h ⟨hP, hS, lv_sub hl [1, 2, 3, 4, 5, 0] rfl⟩
set_option maxHeartbeats 4000000 in
set_option maxRecDepth 100000 in
theorem k_X5_bringAll (l : Launch) (D : va_G) (cA : Nat → ClassId) (adr : Nat → Nat) (hJ : smJ 1 adr) (a0 : Nat) (a1 : Nat) (x2 : Int32) (x3 : Int32) (ha0 : smT 1 a0 5) (ha1 : smT 1 a1 5) (M : smM) (M1 : smM) (h : m_X5_bringAll a0 a1 x2 x3 M = some M1) : Met l yX5_bringAll wsX5_bringAll ({ frames := 2, cells := 0, slots := 0, locals := 50 }) (smPc D cA 1 adr M [.ref (adr a0), .ref (adr a1), .int x2, .int x3]) (smQv D cA 1 adr M1) 0 0 (smA 1 adr) := by
  refine Met.ofW (cc := cX5_bringAll) (maxL := 5) (ret := none) (by decide) rfl ?_
  intro p e s m args below meth c s₁ B hml hv
  obtain ⟨rfl, hE, hP⟩ := hv
  have hx := B.exec
  have hb := B.bytes
  have hr := B.returns
  have hts := atoms_spec (ws := wsX5_bringAll) B.pre
  have hown : s.vm.findClass RX5 = some m.cls := findClass_of_methodNamed B.named
  have hlocks := B.notSynchronized
  have hS : va_S (smA 1 adr) s.heap s.heap [] := va_S.rf
  have hP : smP D cA 1 adr M s.heap := hP
  have hl := lv_entry ([.ref (adr a0), .ref (adr a1), .int x2, .int x3]) (n := 5) (Nat.le_of_ble_eq_true rfl)
  rw [lg_entry_eq]
  generalize (lg_sl ([.ref (adr a0), .ref (adr a1), .int x2, .int x3]) ++ List.replicate (5 - (lg_sl ([.ref (adr a0), .ref (adr a1), .int x2, .int x3])).length) Slot.unset).toArray = ls at hl ⊢
  have hl : lv_has ls 5 [(0, .ref (adr a0)), (1, .ref (adr a1)), (2, .int x2), (3, .int x3)] := hl
  unfold m_X5_bringAll at h
  have hin5 : ∀ w ∈ u_ws RX5 TX5 4, w ∈ wsX5_bringAll := by decide +kernel
  refine lv_iconst (v := (0 : Int32)) hx hb dX5_bringAll_0 (by decide) ?_
  refine lv_istore (lv' := [(4, .int (0 : Int32)), (0, .ref (adr a0)), (1, .ref (adr a1)), (2, .int x2), (3, .int x3)]) hx hb dX5_bringAll_1 hl (by decide) rfl (fun ls hl => ?_)
  refine sm_lp (b := fun rc q => m_X5_bringAll_b3 a0 a1 x2 x3 rc q.1 q.2) (P := fun (q : Int32 × smM) H locs ls => smP D cA 1 adr q.2 H ∧ va_S (smA 1 adr) s.heap H locs ∧ lv_has ls 5 [(0, .ref (adr a0)), (1, .ref (adr a1)), (2, .int x2), (3, .int x3), (4, .int q.1)]) (pc := 3) ?_ _ _ _ _ _ h ⟨hP, hS, lv_sub hl [1, 2, 3, 4, 0] rfl⟩
  intro rc3_917 ih3_918 q H locs ls h hI
  obtain ⟨x4_3_915, M3_916⟩ := q
  obtain ⟨hP, hS, hl⟩ := hI
  have hP : smP D cA 1 adr M3_916 H := hP
  have hl : lv_has ls 5 [(0, .ref (adr a0)), (1, .ref (adr a1)), (2, .int x2), (3, .int x3), (4, .int x4_3_915)] := hl
  have h : m_X5_bringAll_b3 a0 a1 x2 x3 rc3_917 x4_3_915 M3_916 = some _ := h
  unfold m_X5_bringAll_b3 at h
  refine lv_iload hx hb dX5_bringAll_3 (lv_at hl 4 rfl) ?_
  refine lv_aload_n hx hb dX5_bringAll_5 rfl (lv_at hl 1 rfl) ?_
  refine sm_get (ci := 5) (C := RX5) (T := TX5) (N := 4) (v := .int (M3_916 a1 0)) hx hb hts hin5 hown hE hP ha1 rfl rfl 0 (by decide) (hts (.fieldLink RX5 27 "OrderMover$Polynomial" "howMany" "I") (by decide +kernel)) (fun _ h9 => h9) rfl dX5_bringAll_6 ?_
  refine lv_icmp_ge (tgt := 50) hx hb dX5_bringAll_9 (by decide) (fun c9_919 => ?_) (fun c9_919 => ?_)
  · rw [if_pos c9_919] at h
    cases h
    exact sm_vret hx hb hr hlocks hP hS dX5_bringAll_50
  · rw [if_neg c9_919] at h
    refine lv_aload_n hx hb dX5_bringAll_12 rfl (lv_at hl 0 rfl) ?_
    refine lv_aload_n hx hb dX5_bringAll_13 rfl (lv_at hl 1 rfl) ?_
    refine sm_get (ci := 5) (C := RX5) (T := TX5) (N := 4) (v := .ref (adr (a1 + 1))) hx hb hts hin5 hown hE hP ha1 rfl rfl 1 (by decide) (hts (.fieldLink RX5 15 "OrderMover$Polynomial" "numbers" "[I") (by decide +kernel)) (fun _ h9 => h9) rfl dX5_bringAll_14 ?_
    refine lv_iload hx hb dX5_bringAll_17 (lv_at hl 4 rfl) ?_
    obtain ⟨c19_920, h⟩ := sm_ck h
    refine sm_iald hx hb hE hP (t5_1 ha1) c19_920 dX5_bringAll_19 ?_
    refine lv_iload_n hx hb dX5_bringAll_20 rfl (lv_at hl 2 rfl) ?_
    refine lv_imul hx hb dX5_bringAll_21 ?_
    refine lv_iload_n hx hb dX5_bringAll_22 rfl (lv_at hl 3 rfl) ?_
    obtain ⟨v23_921, hc23_923, h⟩ := sm_bd h
    refine sm_ci (va_runSN (As := [.int ((M3_916 (a1 + 1) (x4_3_915).toNatClampNeg) * x2), .int x3]) (rest := [.ref (adr a0)]) ⟨hx, hb, hml, hown, hts⟩ (k_X11_leftOver l D cA adr hJ ((M3_916 (a1 + 1) (x4_3_915).toNatClampNeg) * x2) x3  M3_916 v23_921 hc23_923) ⟨va_cnB (host := "OrderMover") 2 hts gX5_bringAll_X11_leftOver_n34 rfl rfl rfl (hE.2 (RX5, 34, yX11_leftOver, "OrderMover") (by decide +kernel)) (hts (.initialized RX11) (by decide +kernel)) (by decide +kernel) ⟨Nat.le_of_ble_eq_true rfl, Nat.le_of_ble_eq_true rfl⟩, hts (.static yX11_leftOver) (by decide +kernel), trivial⟩ ⟨smPc_bl, smPc_in [.int ((M3_916 (a1 + 1) (x4_3_915).toNatClampNeg) * x2), .int x3] hE hP⟩ rfl rfl hl.1 rfl (lv_room (Nat.le_of_ble_eq_true rfl)) dX5_bringAll_23 ⟨Nat.zero_le _, Nat.zero_le _⟩) hS (fun H locs hP hS => ?_)
    refine lv_aload_n hx hb dX5_bringAll_26 rfl (lv_at hl 1 rfl) ?_
    refine sm_get (ci := 5) (C := RX5) (T := TX5) (N := 4) (v := .ref (adr (a1 + 2))) hx hb hts hin5 hown hE hP ha1 rfl rfl 2 (by decide) (hts (.fieldLink RX5 21 "OrderMover$Polynomial" "xs" "[I") (by decide +kernel)) (fun _ h9 => h9) rfl dX5_bringAll_27 ?_
    refine lv_iload hx hb dX5_bringAll_30 (lv_at hl 4 rfl) ?_
    obtain ⟨c32_924, h⟩ := sm_ck h
    refine sm_iald hx hb hE hP (t5_2 ha1) c32_924 dX5_bringAll_32 ?_
    refine lv_aload_n hx hb dX5_bringAll_33 rfl (lv_at hl 1 rfl) ?_
    refine sm_get (ci := 5) (C := RX5) (T := TX5) (N := 4) (v := .ref (adr (a1 + 3))) hx hb hts hin5 hown hE hP ha1 rfl rfl 3 (by decide) (hts (.fieldLink RX5 24 "OrderMover$Polynomial" "ys" "[I") (by decide +kernel)) (fun _ h9 => h9) rfl dX5_bringAll_34 ?_
    refine lv_iload hx hb dX5_bringAll_37 (lv_at hl 4 rfl) ?_
    obtain ⟨c39_925, h⟩ := sm_ck h
    refine sm_iald hx hb hE hP (t5_3 ha1) c39_925 dX5_bringAll_39 ?_
    refine lv_iload_n hx hb dX5_bringAll_40 rfl (lv_at hl 3 rfl) ?_
    obtain ⟨M41_927, hc41_928, h⟩ := sm_bd h
    refine sm_cv (va_runV (As := [.int v23_921, .int (M3_916 (a1 + 2) (x4_3_915).toNatClampNeg), .int (M3_916 (a1 + 3) (x4_3_915).toNatClampNeg), .int x3]) (rest := []) ⟨hx, hb, hml, hown, hts⟩ (k_X5_bring l D cA adr hJ a0 v23_921 (M3_916 (a1 + 2) (x4_3_915).toNatClampNeg) (M3_916 (a1 + 3) (x4_3_915).toNatClampNeg) x3 ha0 M3_916 M41_927 hc41_928) (cwV 4 hts gX5_bringAll_X5_bring rfl rfl rfl (by decide +kernel) ⟨Nat.le_of_ble_eq_true rfl, Nat.le_of_ble_eq_true rfl⟩) ⟨smPc_bl, smRv hE hP ha0 rfl (ci := 5) (q := (RX5, TX5, 4)) rfl, smPc_in [.ref (adr a0), .int v23_921, .int (M3_916 (a1 + 2) (x4_3_915).toNatClampNeg), .int (M3_916 (a1 + 3) (x4_3_915).toNatClampNeg), .int x3] hE hP⟩ rfl rfl hl.1 rfl (lv_room (Nat.le_of_ble_eq_true rfl)) dX5_bringAll_41 ⟨Nat.zero_le _, Nat.zero_le _⟩) hS (fun H locs hP hS => ?_)
    refine lv_iinc (v := (x4_3_915 + (1 : Int32))) (lv' := [(4, .int (x4_3_915 + (1 : Int32))), (0, .ref (adr a0)), (1, .ref (adr a1)), (2, .int x2), (3, .int x3)]) hx hb dX5_bringAll_44 hl (k := 4) rfl (congrArg (fun z => x4_3_915 + z) (by decide)) (by decide) rfl (fun ls hl => ?_)
    refine lv_goto (tgt := 3) hx hb dX5_bringAll_47 (by decide) ?_
    exact ih3_918 ((x4_3_915 + (1 : Int32)), M41_927) _ _ _ h ⟨hP, hS, lv_sub hl [1, 2, 3, 4, 0] rfl⟩
set_option maxHeartbeats 4000000 in
set_option maxRecDepth 100000 in
theorem k_X5_canCompare (l : Launch) (D : va_G) (cA : Nat → ClassId) (adr : Nat → Nat) (hJ : smJ 1 adr) (a0 : Nat) (a1 : Nat) (ha0 : smT 1 a0 5) (ha1 : smT 1 a1 10) (M : smM) (v1 : Int32) (h : m_X5_canCompare a0 a1 M = some v1) : Met l yX5_canCompare wsX5_canCompare ({ frames := 1, cells := 0, slots := 0, locals := 22 }) (smPc D cA 1 adr M [.ref (adr a0), .ref (adr a1)]) (smQi D cA 1 adr M v1) 0 0 (smA 1 adr) := by
  refine Met.ofW (cc := cX5_canCompare) (maxL := 3) (ret := (some .boolean)) (by decide) rfl ?_
  intro p e s m args below meth c s₁ B hml hv
  obtain ⟨rfl, hE, hP⟩ := hv
  have hx := B.exec
  have hb := B.bytes
  have hr := B.returns
  have hts := atoms_spec (ws := wsX5_canCompare) B.pre
  have hown : s.vm.findClass RX5 = some m.cls := findClass_of_methodNamed B.named
  have hlocks := B.notSynchronized
  have hS : va_S (smA 1 adr) s.heap s.heap [] := va_S.rf
  have hP : smP D cA 1 adr M s.heap := hP
  have hl := lv_entry ([.ref (adr a0), .ref (adr a1)]) (n := 3) (Nat.le_of_ble_eq_true rfl)
  rw [lg_entry_eq]
  generalize (lg_sl ([.ref (adr a0), .ref (adr a1)]) ++ List.replicate (3 - (lg_sl ([.ref (adr a0), .ref (adr a1)])).length) Slot.unset).toArray = ls at hl ⊢
  have hl : lv_has ls 3 [(0, .ref (adr a0)), (1, .ref (adr a1))] := hl
  unfold m_X5_canCompare at h
  have hin5 : ∀ w ∈ u_ws RX5 TX5 4, w ∈ wsX5_canCompare := by decide +kernel
  refine lv_iconst (v := (0 : Int32)) hx hb dX5_canCompare_0 (by decide) ?_
  refine lv_istore_n (lv' := [(2, .int (0 : Int32)), (0, .ref (adr a0)), (1, .ref (adr a1))]) hx hb dX5_canCompare_1 rfl hl (by decide) rfl (fun ls hl => ?_)
  refine sm_lp (b := fun rc q => m_X5_canCompare_b2 a0 a1 M rc q) (P := fun (q : Int32) H locs ls => smP D cA 1 adr M H ∧ va_S (smA 1 adr) s.heap H locs ∧ lv_has ls 3 [(0, .ref (adr a0)), (1, .ref (adr a1)), (2, .int q)]) (pc := 2) ?_ _ _ _ _ _ h ⟨hP, hS, lv_sub hl [1, 2, 0] rfl⟩
  intro rc2_930 ih2_931 q H locs ls h hI
  obtain ⟨x2_2_929, hq⟩ : ∃ y, y = q := ⟨_, rfl⟩; subst hq
  obtain ⟨hP, hS, hl⟩ := hI
  have hP : smP D cA 1 adr M H := hP
  have hl : lv_has ls 3 [(0, .ref (adr a0)), (1, .ref (adr a1)), (2, .int x2_2_929)] := hl
  have h : m_X5_canCompare_b2 a0 a1 M rc2_930 x2_2_929 = some _ := h
  unfold m_X5_canCompare_b2 at h
  refine lv_iload_n hx hb dX5_canCompare_2 rfl (lv_at hl 2 rfl) ?_
  refine lv_aload_n hx hb dX5_canCompare_3 rfl (lv_at hl 0 rfl) ?_
  refine sm_get (ci := 5) (C := RX5) (T := TX5) (N := 4) (v := .int (M a0 0)) hx hb hts hin5 hown hE hP ha0 rfl rfl 0 (by decide) (hts (.fieldLink RX5 27 "OrderMover$Polynomial" "howMany" "I") (by decide +kernel)) (fun _ h9 => h9) rfl dX5_canCompare_4 ?_
  refine lv_icmp_ge (tgt := 41) hx hb dX5_canCompare_7 (by decide) (fun c7_932 => ?_) (fun c7_932 => ?_)
  · rw [if_pos c7_932] at h
    refine lv_iconst (v := (1 : Int32)) hx hb dX5_canCompare_41 (by decide) ?_
    cases h
    exact sm_zret (by first | rfl | decide) hx hb hr hlocks hP hS dX5_canCompare_42
  · rw [if_neg c7_932] at h
    refine lv_aload_n hx hb dX5_canCompare_10 rfl (lv_at hl 1 rfl) ?_
    refine lv_aload_n hx hb dX5_canCompare_11 rfl (lv_at hl 0 rfl) ?_
    refine sm_get (ci := 5) (C := RX5) (T := TX5) (N := 4) (v := .ref (adr (a0 + 2))) hx hb hts hin5 hown hE hP ha0 rfl rfl 2 (by decide) (hts (.fieldLink RX5 21 "OrderMover$Polynomial" "xs" "[I") (by decide +kernel)) (fun _ h9 => h9) rfl dX5_canCompare_12 ?_
    refine lv_iload_n hx hb dX5_canCompare_15 rfl (lv_at hl 2 rfl) ?_
    obtain ⟨c16_933, h⟩ := sm_ck h
    refine sm_iald hx hb hE hP (t5_2 ha0) c16_933 dX5_canCompare_16 ?_
    refine lv_aload_n hx hb dX5_canCompare_17 rfl (lv_at hl 0 rfl) ?_
    refine sm_get (ci := 5) (C := RX5) (T := TX5) (N := 4) (v := .ref (adr (a0 + 3))) hx hb hts hin5 hown hE hP ha0 rfl rfl 3 (by decide) (hts (.fieldLink RX5 24 "OrderMover$Polynomial" "ys" "[I") (by decide +kernel)) (fun _ h9 => h9) rfl dX5_canCompare_18 ?_
    refine lv_iload_n hx hb dX5_canCompare_21 rfl (lv_at hl 2 rfl) ?_
    obtain ⟨c22_934, h⟩ := sm_ck h
    refine sm_iald hx hb hE hP (t5_3 ha0) c22_934 dX5_canCompare_22 ?_
    obtain ⟨v23_935, hc23_937, h⟩ := sm_bd h
    refine sm_cl (va_runV (As := [.int (M (a0 + 2) (x2_2_929).toNatClampNeg), .int (M (a0 + 3) (x2_2_929).toNatClampNeg)]) (rest := []) ⟨hx, hb, hml, hown, hts⟩ (k_X10_weight l D cA adr hJ a1 (M (a0 + 2) (x2_2_929).toNatClampNeg) (M (a0 + 3) (x2_2_929).toNatClampNeg) ha1 M v23_935 hc23_937) (cwV 2 hts gX5_canCompare_X10_weight rfl rfl rfl (by decide +kernel) ⟨Nat.le_of_ble_eq_true rfl, Nat.le_of_ble_eq_true rfl⟩) ⟨smPc_bl, smRv hE hP ha1 rfl (ci := 10) (q := (RX10, TX10, 3)) rfl, smPc_in [.ref (adr a1), .int (M (a0 + 2) (x2_2_929).toNatClampNeg), .int (M (a0 + 3) (x2_2_929).toNatClampNeg)] hE hP⟩ rfl rfl hl.1 rfl (lv_room (Nat.le_of_ble_eq_true rfl)) dX5_canCompare_23 ⟨Nat.zero_le _, Nat.zero_le _⟩) hS (fun H locs hP hS => ?_)
    refine lv_ldc2 (v := (2147483647 : Int64)) hx hb hown (hts (.constantLong RX5 57 (2147483647)) (by decide +kernel)) dX5_canCompare_26 ?_
    refine W.lcmp hx hb dX5_canCompare_29 ?_
    refine lv_if_le (tgt := 35) hx hb dX5_canCompare_30 (by decide) (fun c30_938 => ?_) (fun c30_938 => ?_)
    · rw [if_pos c30_938] at h
      refine lv_iinc (v := (x2_2_929 + (1 : Int32))) (lv' := [(2, .int (x2_2_929 + (1 : Int32))), (0, .ref (adr a0)), (1, .ref (adr a1))]) hx hb dX5_canCompare_35 hl (k := 2) rfl (congrArg (fun z => x2_2_929 + z) (by decide)) (by decide) rfl (fun ls hl => ?_)
      refine lv_goto (tgt := 2) hx hb dX5_canCompare_38 (by decide) ?_
      exact ih2_931 (x2_2_929 + (1 : Int32)) _ _ _ h ⟨hP, hS, lv_sub hl [1, 2, 0] rfl⟩
    · rw [if_neg c30_938] at h
      refine lv_iconst (v := (0 : Int32)) hx hb dX5_canCompare_33 (by decide) ?_
      cases h
      exact sm_zret (by first | rfl | decide) hx hb hr hlocks hP hS dX5_canCompare_34
set_option maxHeartbeats 4000000 in
set_option maxRecDepth 100000 in
theorem k_X5_canRise (l : Launch) (D : va_G) (cA : Nat → ClassId) (adr : Nat → Nat) (hJ : smJ 1 adr) (a0 : Nat) (x1 : Int32) (x2 : Int32) (ha0 : smT 1 a0 5) (M : smM) (v1 : Int32) (h : m_X5_canRise a0 x1 x2 M = some v1) : Met l yX5_canRise wsX5_canRise ({ frames := 0, cells := 0, slots := 0, locals := 0 }) (smPc D cA 1 adr M [.ref (adr a0), .int x1, .int x2]) (smQi D cA 1 adr M v1) 0 0 (smA 1 adr) := by
  refine Met.ofW (cc := cX5_canRise) (maxL := 4) (ret := (some .boolean)) (by decide) rfl ?_
  intro p e s m args below meth c s₁ B hml hv
  obtain ⟨rfl, hE, hP⟩ := hv
  have hx := B.exec
  have hb := B.bytes
  have hr := B.returns
  have hts := atoms_spec (ws := wsX5_canRise) B.pre
  have hown : s.vm.findClass RX5 = some m.cls := findClass_of_methodNamed B.named
  have hlocks := B.notSynchronized
  have hS : va_S (smA 1 adr) s.heap s.heap [] := va_S.rf
  have hP : smP D cA 1 adr M s.heap := hP
  have hl := lv_entry ([.ref (adr a0), .int x1, .int x2]) (n := 4) (Nat.le_of_ble_eq_true rfl)
  rw [lg_entry_eq]
  generalize (lg_sl ([.ref (adr a0), .int x1, .int x2]) ++ List.replicate (4 - (lg_sl ([.ref (adr a0), .int x1, .int x2])).length) Slot.unset).toArray = ls at hl ⊢
  have hl : lv_has ls 4 [(0, .ref (adr a0)), (1, .int x1), (2, .int x2)] := hl
  unfold m_X5_canRise at h
  have hin5 : ∀ w ∈ u_ws RX5 TX5 4, w ∈ wsX5_canRise := by decide +kernel
  refine lv_iconst (v := (0 : Int32)) hx hb dX5_canRise_0 (by decide) ?_
  refine lv_istore_n (lv' := [(3, .int (0 : Int32)), (0, .ref (adr a0)), (1, .int x1), (2, .int x2)]) hx hb dX5_canRise_1 rfl hl (by decide) rfl (fun ls hl => ?_)
  refine sm_lp (b := fun rc q => m_X5_canRise_b2 a0 x1 x2 M rc q) (P := fun (q : Int32) H locs ls => smP D cA 1 adr M H ∧ va_S (smA 1 adr) s.heap H locs ∧ lv_has ls 4 [(0, .ref (adr a0)), (1, .int x1), (2, .int x2), (3, .int q)]) (pc := 2) ?_ _ _ _ _ _ h ⟨hP, hS, lv_sub hl [1, 2, 3, 0] rfl⟩
  intro rc2_940 ih2_941 q H locs ls h hI
  obtain ⟨x3_2_939, hq⟩ : ∃ y, y = q := ⟨_, rfl⟩; subst hq
  obtain ⟨hP, hS, hl⟩ := hI
  have hP : smP D cA 1 adr M H := hP
  have hl : lv_has ls 4 [(0, .ref (adr a0)), (1, .int x1), (2, .int x2), (3, .int x3_2_939)] := hl
  have h : m_X5_canRise_b2 a0 x1 x2 M rc2_940 x3_2_939 = some _ := h
  unfold m_X5_canRise_b2 at h
  refine lv_iload_n hx hb dX5_canRise_2 rfl (lv_at hl 3 rfl) ?_
  refine lv_aload_n hx hb dX5_canRise_3 rfl (lv_at hl 0 rfl) ?_
  refine sm_get (ci := 5) (C := RX5) (T := TX5) (N := 4) (v := .int (M a0 0)) hx hb hts hin5 hown hE hP ha0 rfl rfl 0 (by decide) (hts (.fieldLink RX5 27 "OrderMover$Polynomial" "howMany" "I") (by decide +kernel)) (fun _ h9 => h9) rfl dX5_canRise_4 ?_
  refine lv_icmp_ge (tgt := 44) hx hb dX5_canRise_7 (by decide) (fun c7_942 => ?_) (fun c7_942 => ?_)
  · rw [if_pos c7_942] at h
    refine lv_iconst (v := (1 : Int32)) hx hb dX5_canRise_44 (by decide) ?_
    cases h
    exact sm_zret (by first | rfl | decide) hx hb hr hlocks hP hS dX5_canRise_45
  · rw [if_neg c7_942] at h
    refine lv_aload_n hx hb dX5_canRise_10 rfl (lv_at hl 0 rfl) ?_
    refine sm_get (ci := 5) (C := RX5) (T := TX5) (N := 4) (v := .ref (adr (a0 + 2))) hx hb hts hin5 hown hE hP ha0 rfl rfl 2 (by decide) (hts (.fieldLink RX5 21 "OrderMover$Polynomial" "xs" "[I") (by decide +kernel)) (fun _ h9 => h9) rfl dX5_canRise_11 ?_
    refine lv_iload_n hx hb dX5_canRise_14 rfl (lv_at hl 3 rfl) ?_
    obtain ⟨c15_943, h⟩ := sm_ck h
    refine sm_iald hx hb hE hP (t5_2 ha0) c15_943 dX5_canRise_15 ?_
    refine lv_ldc (v := (2147483647 : Int32)) hx hb hown (hts (.constant RX5 47 (2147483647)) (by decide +kernel)) dX5_canRise_16 ?_
    refine lv_iload_n hx hb dX5_canRise_18 rfl (lv_at hl 1 rfl) ?_
    refine lv_isub hx hb dX5_canRise_19 ?_
    refine lv_icmp_gt (tgt := 36) hx hb dX5_canRise_20 (by decide) (fun c20_944 => ?_) (fun c20_944 => ?_)
    · rw [if_pos c20_944] at h
      refine lv_iconst (v := (0 : Int32)) hx hb dX5_canRise_36 (by decide) ?_
      cases h
      exact sm_zret (by first | rfl | decide) hx hb hr hlocks hP hS dX5_canRise_37
    · rw [if_neg c20_944] at h
      refine lv_aload_n hx hb dX5_canRise_23 rfl (lv_at hl 0 rfl) ?_
      refine sm_get (ci := 5) (C := RX5) (T := TX5) (N := 4) (v := .ref (adr (a0 + 3))) hx hb hts hin5 hown hE hP ha0 rfl rfl 3 (by decide) (hts (.fieldLink RX5 24 "OrderMover$Polynomial" "ys" "[I") (by decide +kernel)) (fun _ h9 => h9) rfl dX5_canRise_24 ?_
      refine lv_iload_n hx hb dX5_canRise_27 rfl (lv_at hl 3 rfl) ?_
      obtain ⟨c28_945, h⟩ := sm_ck h
      refine sm_iald hx hb hE hP (t5_3 ha0) c28_945 dX5_canRise_28 ?_
      refine lv_ldc (v := (2147483647 : Int32)) hx hb hown (hts (.constant RX5 47 (2147483647)) (by decide +kernel)) dX5_canRise_29 ?_
      refine lv_iload_n hx hb dX5_canRise_31 rfl (lv_at hl 2 rfl) ?_
      refine lv_isub hx hb dX5_canRise_32 ?_
      refine lv_icmp_le (tgt := 38) hx hb dX5_canRise_33 (by decide) (fun c33_946 => ?_) (fun c33_946 => ?_)
      · rw [if_pos c33_946] at h
        refine lv_iinc (v := (x3_2_939 + (1 : Int32))) (lv' := [(3, .int (x3_2_939 + (1 : Int32))), (0, .ref (adr a0)), (1, .int x1), (2, .int x2)]) hx hb dX5_canRise_38 hl (k := 3) rfl (congrArg (fun z => x3_2_939 + z) (by decide)) (by decide) rfl (fun ls hl => ?_)
        refine lv_goto (tgt := 2) hx hb dX5_canRise_41 (by decide) ?_
        exact ih2_941 (x3_2_939 + (1 : Int32)) _ _ _ h ⟨hP, hS, lv_sub hl [1, 2, 3, 0] rfl⟩
      · rw [if_neg c33_946] at h
        refine lv_iconst (v := (0 : Int32)) hx hb dX5_canRise_36 (by decide) ?_
        cases h
        exact sm_zret (by first | rfl | decide) hx hb hr hlocks hP hS dX5_canRise_37
set_option maxHeartbeats 4000000 in
set_option maxRecDepth 100000 in
theorem k_X5_copyFrom (l : Launch) (D : va_G) (cA : Nat → ClassId) (adr : Nat → Nat) (hJ : smJ 1 adr) (a0 : Nat) (a1 : Nat) (ha0 : smT 1 a0 5) (ha1 : smT 1 a1 5) (M : smM) (M1 : smM) (h : m_X5_copyFrom a0 a1 M = some M1) : Met l yX5_copyFrom wsX5_copyFrom ({ frames := 1, cells := 0, slots := 0, locals := 27 }) (smPc D cA 1 adr M [.ref (adr a0), .ref (adr a1)]) (smQv D cA 1 adr M1) 0 0 (smA 1 adr) := by
  refine Met.ofW (cc := cX5_copyFrom) (maxL := 3) (ret := none) (by decide) rfl ?_
  intro p e s m args below meth c s₁ B hml hv
  obtain ⟨rfl, hE, hP⟩ := hv
  have hx := B.exec
  have hb := B.bytes
  have hr := B.returns
  have hts := atoms_spec (ws := wsX5_copyFrom) B.pre
  have hown : s.vm.findClass RX5 = some m.cls := findClass_of_methodNamed B.named
  have hlocks := B.notSynchronized
  have hS : va_S (smA 1 adr) s.heap s.heap [] := va_S.rf
  have hP : smP D cA 1 adr M s.heap := hP
  have hl := lv_entry ([.ref (adr a0), .ref (adr a1)]) (n := 3) (Nat.le_of_ble_eq_true rfl)
  rw [lg_entry_eq]
  generalize (lg_sl ([.ref (adr a0), .ref (adr a1)]) ++ List.replicate (3 - (lg_sl ([.ref (adr a0), .ref (adr a1)])).length) Slot.unset).toArray = ls at hl ⊢
  have hl : lv_has ls 3 [(0, .ref (adr a0)), (1, .ref (adr a1))] := hl
  unfold m_X5_copyFrom at h
  have hin5 : ∀ w ∈ u_ws RX5 TX5 4, w ∈ wsX5_copyFrom := by decide +kernel
  refine lv_aload_n hx hb dX5_copyFrom_0 rfl (lv_at hl 0 rfl) ?_
  refine lv_aload_n hx hb dX5_copyFrom_1 rfl (lv_at hl 1 rfl) ?_
  refine sm_get (ci := 5) (C := RX5) (T := TX5) (N := 4) (v := .int (M a1 0)) hx hb hts hin5 hown hE hP ha1 rfl rfl 0 (by decide) (hts (.fieldLink RX5 27 "OrderMover$Polynomial" "howMany" "I") (by decide +kernel)) (fun _ h9 => h9) rfl dX5_copyFrom_2 ?_
  refine lv_aload_n hx hb dX5_copyFrom_5 rfl (lv_at hl 0 rfl) ?_
  refine sm_get (ci := 5) (C := RX5) (T := TX5) (N := 4) (v := .ref (adr (a0 + 1))) hx hb hts hin5 hown hE hP ha0 rfl rfl 1 (by decide) (hts (.fieldLink RX5 15 "OrderMover$Polynomial" "numbers" "[I") (by decide +kernel)) (fun _ h9 => h9) rfl dX5_copyFrom_6 ?_
  refine sm_alen hx hb hE hP (t5_1 ha0) dX5_copyFrom_9 ?_
  refine va_mmin hx hb (by rw [hml, hl.1]) hown (hts (.methodLink RX5 31 Lib.Math.min.name) (by decide +kernel)) (hts (.static Lib.Math.min.name) (by decide +kernel)) (hts (.initialized "java/lang/Math") (by decide +kernel)) (hts (.code Lib.Math.min.name Lib.Math.min.code 2 (some .int)) (by decide +kernel)) (Nat.le_of_ble_eq_true rfl) (Nat.le_of_ble_eq_true rfl) (Nat.zero_le _) (Nat.zero_le _) dX5_copyFrom_10 ?_
  refine sm_put (ci := 5) (C := RX5) (T := TX5) (N := 4) (ty := .int) hx hb hts hin5 tyX5 tyX5_ok nmX5 hown hE hJ hP hS ha0 rfl rfl 0 (by decide) (hts (.fieldLink RX5 27 "OrderMover$Polynomial" "howMany" "I") (by decide +kernel)) (fun _ h9 => h9) rfl (by decide +kernel) rfl rfl (Nat.le_of_ble_eq_true rfl) rfl dX5_copyFrom_13 (fun H locs hP hS => ?_)
  obtain ⟨M13_947, hM, h⟩ := sm_lt h
  rw [← hM] at hP; clear hM
  refine lv_iconst (v := (0 : Int32)) hx hb dX5_copyFrom_16 (by decide) ?_
  refine lv_istore_n (lv' := [(2, .int (0 : Int32)), (0, .ref (adr a0)), (1, .ref (adr a1))]) hx hb dX5_copyFrom_17 rfl hl (by decide) rfl (fun ls hl => ?_)
  refine sm_lp (b := fun rc q => m_X5_copyFrom_b18 a0 a1 rc q.1 q.2) (P := fun (q : Int32 × smM) H locs ls => smP D cA 1 adr q.2 H ∧ va_S (smA 1 adr) s.heap H locs ∧ lv_has ls 3 [(0, .ref (adr a0)), (1, .ref (adr a1)), (2, .int q.1)]) (pc := 18) ?_ _ _ _ _ _ h ⟨hP, hS, lv_sub hl [1, 2, 0] rfl⟩
  intro rc18_950 ih18_951 q H locs ls h hI
  obtain ⟨x2_18_948, M18_949⟩ := q
  obtain ⟨hP, hS, hl⟩ := hI
  have hP : smP D cA 1 adr M18_949 H := hP
  have hl : lv_has ls 3 [(0, .ref (adr a0)), (1, .ref (adr a1)), (2, .int x2_18_948)] := hl
  have h : m_X5_copyFrom_b18 a0 a1 rc18_950 x2_18_948 M18_949 = some _ := h
  unfold m_X5_copyFrom_b18 at h
  refine lv_iload_n hx hb dX5_copyFrom_18 rfl (lv_at hl 2 rfl) ?_
  refine lv_aload_n hx hb dX5_copyFrom_19 rfl (lv_at hl 0 rfl) ?_
  refine sm_get (ci := 5) (C := RX5) (T := TX5) (N := 4) (v := .int (M18_949 a0 0)) hx hb hts hin5 hown hE hP ha0 rfl rfl 0 (by decide) (hts (.fieldLink RX5 27 "OrderMover$Polynomial" "howMany" "I") (by decide +kernel)) (fun _ h9 => h9) rfl dX5_copyFrom_20 ?_
  refine lv_icmp_ge (tgt := 68) hx hb dX5_copyFrom_23 (by decide) (fun c23_952 => ?_) (fun c23_952 => ?_)
  · rw [if_pos c23_952] at h
    cases h
    exact sm_vret hx hb hr hlocks hP hS dX5_copyFrom_68
  · rw [if_neg c23_952] at h
    refine lv_aload_n hx hb dX5_copyFrom_26 rfl (lv_at hl 0 rfl) ?_
    refine sm_get (ci := 5) (C := RX5) (T := TX5) (N := 4) (v := .ref (adr (a0 + 1))) hx hb hts hin5 hown hE hP ha0 rfl rfl 1 (by decide) (hts (.fieldLink RX5 15 "OrderMover$Polynomial" "numbers" "[I") (by decide +kernel)) (fun _ h9 => h9) rfl dX5_copyFrom_27 ?_
    refine lv_iload_n hx hb dX5_copyFrom_30 rfl (lv_at hl 2 rfl) ?_
    refine lv_aload_n hx hb dX5_copyFrom_31 rfl (lv_at hl 1 rfl) ?_
    refine sm_get (ci := 5) (C := RX5) (T := TX5) (N := 4) (v := .ref (adr (a1 + 1))) hx hb hts hin5 hown hE hP ha1 rfl rfl 1 (by decide) (hts (.fieldLink RX5 15 "OrderMover$Polynomial" "numbers" "[I") (by decide +kernel)) (fun _ h9 => h9) rfl dX5_copyFrom_32 ?_
    refine lv_iload_n hx hb dX5_copyFrom_35 rfl (lv_at hl 2 rfl) ?_
    obtain ⟨c36_953, h⟩ := sm_ck h
    refine sm_iald hx hb hE hP (t5_1 ha1) c36_953 dX5_copyFrom_36 ?_
    obtain ⟨c37_954, h⟩ := sm_ck h
    refine sm_iast hx hb hE hJ hP hS (t5_1 ha0) c37_954 dX5_copyFrom_37 (fun H locs hP hS => ?_)
    obtain ⟨M37_955, hM, h⟩ := sm_lt h
    rw [← hM] at hP; clear hM
    refine lv_aload_n hx hb dX5_copyFrom_38 rfl (lv_at hl 0 rfl) ?_
    refine sm_get (ci := 5) (C := RX5) (T := TX5) (N := 4) (v := .ref (adr (a0 + 2))) hx hb hts hin5 hown hE hP ha0 rfl rfl 2 (by decide) (hts (.fieldLink RX5 21 "OrderMover$Polynomial" "xs" "[I") (by decide +kernel)) (fun _ h9 => h9) rfl dX5_copyFrom_39 ?_
    refine lv_iload_n hx hb dX5_copyFrom_42 rfl (lv_at hl 2 rfl) ?_
    refine lv_aload_n hx hb dX5_copyFrom_43 rfl (lv_at hl 1 rfl) ?_
    refine sm_get (ci := 5) (C := RX5) (T := TX5) (N := 4) (v := .ref (adr (a1 + 2))) hx hb hts hin5 hown hE hP ha1 rfl rfl 2 (by decide) (hts (.fieldLink RX5 21 "OrderMover$Polynomial" "xs" "[I") (by decide +kernel)) (fun _ h9 => h9) rfl dX5_copyFrom_44 ?_
    refine lv_iload_n hx hb dX5_copyFrom_47 rfl (lv_at hl 2 rfl) ?_
    obtain ⟨c48_956, h⟩ := sm_ck h
    refine sm_iald hx hb hE hP (t5_2 ha1) c48_956 dX5_copyFrom_48 ?_
    obtain ⟨c49_957, h⟩ := sm_ck h
    refine sm_iast hx hb hE hJ hP hS (t5_2 ha0) c49_957 dX5_copyFrom_49 (fun H locs hP hS => ?_)
    obtain ⟨M49_958, hM, h⟩ := sm_lt h
    rw [← hM] at hP; clear hM
    refine lv_aload_n hx hb dX5_copyFrom_50 rfl (lv_at hl 0 rfl) ?_
    refine sm_get (ci := 5) (C := RX5) (T := TX5) (N := 4) (v := .ref (adr (a0 + 3))) hx hb hts hin5 hown hE hP ha0 rfl rfl 3 (by decide) (hts (.fieldLink RX5 24 "OrderMover$Polynomial" "ys" "[I") (by decide +kernel)) (fun _ h9 => h9) rfl dX5_copyFrom_51 ?_
    refine lv_iload_n hx hb dX5_copyFrom_54 rfl (lv_at hl 2 rfl) ?_
    refine lv_aload_n hx hb dX5_copyFrom_55 rfl (lv_at hl 1 rfl) ?_
    refine sm_get (ci := 5) (C := RX5) (T := TX5) (N := 4) (v := .ref (adr (a1 + 3))) hx hb hts hin5 hown hE hP ha1 rfl rfl 3 (by decide) (hts (.fieldLink RX5 24 "OrderMover$Polynomial" "ys" "[I") (by decide +kernel)) (fun _ h9 => h9) rfl dX5_copyFrom_56 ?_
    refine lv_iload_n hx hb dX5_copyFrom_59 rfl (lv_at hl 2 rfl) ?_
    obtain ⟨c60_959, h⟩ := sm_ck h
    refine sm_iald hx hb hE hP (t5_3 ha1) c60_959 dX5_copyFrom_60 ?_
    obtain ⟨c61_960, h⟩ := sm_ck h
    refine sm_iast hx hb hE hJ hP hS (t5_3 ha0) c61_960 dX5_copyFrom_61 (fun H locs hP hS => ?_)
    obtain ⟨M61_961, hM, h⟩ := sm_lt h
    rw [← hM] at hP; clear hM
    refine lv_iinc (v := (x2_18_948 + (1 : Int32))) (lv' := [(2, .int (x2_18_948 + (1 : Int32))), (0, .ref (adr a0)), (1, .ref (adr a1))]) hx hb dX5_copyFrom_62 hl (k := 2) rfl (congrArg (fun z => x2_18_948 + z) (by decide)) (by decide) rfl (fun ls hl => ?_)
    refine lv_goto (tgt := 18) hx hb dX5_copyFrom_65 (by decide) ?_
    exact ih18_951 ((x2_18_948 + (1 : Int32)), M61_961) _ _ _ h ⟨hP, hS, lv_sub hl [1, 2, 0] rfl⟩
set_option maxHeartbeats 4000000 in
set_option maxRecDepth 100000 in
theorem k_X5_empty (l : Launch) (D : va_G) (cA : Nat → ClassId) (adr : Nat → Nat) (hJ : smJ 1 adr) (a0 : Nat) (ha0 : smT 1 a0 5) (M : smM) (M1 : smM) (h : m_X5_empty a0 M = some M1) : Met l yX5_empty wsX5_empty ({ frames := 0, cells := 0, slots := 0, locals := 0 }) (smPc D cA 1 adr M [.ref (adr a0)]) (smQv D cA 1 adr M1) 0 0 (smA 1 adr) := by
  refine Met.ofW (cc := cX5_empty) (maxL := 1) (ret := none) (by decide) rfl ?_
  intro p e s m args below meth c s₁ B hml hv
  obtain ⟨rfl, hE, hP⟩ := hv
  have hx := B.exec
  have hb := B.bytes
  have hr := B.returns
  have hts := atoms_spec (ws := wsX5_empty) B.pre
  have hown : s.vm.findClass RX5 = some m.cls := findClass_of_methodNamed B.named
  have hlocks := B.notSynchronized
  have hS : va_S (smA 1 adr) s.heap s.heap [] := va_S.rf
  have hP : smP D cA 1 adr M s.heap := hP
  have hl := lv_entry ([.ref (adr a0)]) (n := 1) (Nat.le_of_ble_eq_true rfl)
  rw [lg_entry_eq]
  generalize (lg_sl ([.ref (adr a0)]) ++ List.replicate (1 - (lg_sl ([.ref (adr a0)])).length) Slot.unset).toArray = ls at hl ⊢
  have hl : lv_has ls 1 [(0, .ref (adr a0))] := hl
  unfold m_X5_empty at h
  have hin5 : ∀ w ∈ u_ws RX5 TX5 4, w ∈ wsX5_empty := by decide +kernel
  refine lv_aload_n hx hb dX5_empty_0 rfl (lv_at hl 0 rfl) ?_
  refine lv_iconst (v := (0 : Int32)) hx hb dX5_empty_1 (by decide) ?_
  refine sm_put (ci := 5) (C := RX5) (T := TX5) (N := 4) (ty := .int) hx hb hts hin5 tyX5 tyX5_ok nmX5 hown hE hJ hP hS ha0 rfl rfl 0 (by decide) (hts (.fieldLink RX5 27 "OrderMover$Polynomial" "howMany" "I") (by decide +kernel)) (fun _ h9 => h9) rfl (by decide +kernel) rfl rfl (Nat.le_of_ble_eq_true rfl) rfl dX5_empty_2 (fun H locs hP hS => ?_)
  obtain ⟨M2_962, hM, h⟩ := sm_lt h
  rw [← hM] at hP; clear hM
  cases h
  exact sm_vret hx hb hr hlocks hP hS dX5_empty_5
set_option maxHeartbeats 4000000 in
set_option maxRecDepth 100000 in
theorem k_X5_greatestIn (l : Launch) (D : va_G) (cA : Nat → ClassId) (adr : Nat → Nat) (hJ : smJ 1 adr) (a0 : Nat) (a1 : Nat) (ha0 : smT 1 a0 5) (ha1 : smT 1 a1 10) (M : smM) (v1 : Int32) (h : m_X5_greatestIn a0 a1 M = some v1) : Met l yX5_greatestIn wsX5_greatestIn ({ frames := 2, cells := 0, slots := 0, locals := 51 }) (smPc D cA 1 adr M [.ref (adr a0), .ref (adr a1)]) (smQi D cA 1 adr M v1) 0 0 (smA 1 adr) := by
  refine Met.ofW (cc := cX5_greatestIn) (maxL := 4) (ret := (some .int)) (by decide) rfl ?_
  intro p e s m args below meth c s₁ B hml hv
  obtain ⟨rfl, hE, hP⟩ := hv
  have hx := B.exec
  have hb := B.bytes
  have hr := B.returns
  have hts := atoms_spec (ws := wsX5_greatestIn) B.pre
  have hown : s.vm.findClass RX5 = some m.cls := findClass_of_methodNamed B.named
  have hlocks := B.notSynchronized
  have hS : va_S (smA 1 adr) s.heap s.heap [] := va_S.rf
  have hP : smP D cA 1 adr M s.heap := hP
  have hl := lv_entry ([.ref (adr a0), .ref (adr a1)]) (n := 4) (Nat.le_of_ble_eq_true rfl)
  rw [lg_entry_eq]
  generalize (lg_sl ([.ref (adr a0), .ref (adr a1)]) ++ List.replicate (4 - (lg_sl ([.ref (adr a0), .ref (adr a1)])).length) Slot.unset).toArray = ls at hl ⊢
  have hl : lv_has ls 4 [(0, .ref (adr a0)), (1, .ref (adr a1))] := hl
  unfold m_X5_greatestIn at h
  have hin5 : ∀ w ∈ u_ws RX5 TX5 4, w ∈ wsX5_greatestIn := by decide +kernel
  refine lv_iconst (v := (0 : Int32)) hx hb dX5_greatestIn_0 (by decide) ?_
  refine lv_istore_n (lv' := [(2, .int (0 : Int32)), (0, .ref (adr a0)), (1, .ref (adr a1))]) hx hb dX5_greatestIn_1 rfl hl (by decide) rfl (fun ls hl => ?_)
  refine lv_iconst (v := (1 : Int32)) hx hb dX5_greatestIn_2 (by decide) ?_
  refine lv_istore_n (lv' := [(3, .int (1 : Int32)), (2, .int (0 : Int32)), (0, .ref (adr a0)), (1, .ref (adr a1))]) hx hb dX5_greatestIn_3 rfl hl (by decide) rfl (fun ls hl => ?_)
  refine sm_lp (b := fun rc q => m_X5_greatestIn_b4 a0 a1 M rc q.1 q.2) (P := fun (q : Int32 × Int32) H locs ls => smP D cA 1 adr M H ∧ va_S (smA 1 adr) s.heap H locs ∧ lv_has ls 4 [(0, .ref (adr a0)), (1, .ref (adr a1)), (2, .int q.1), (3, .int q.2)]) (pc := 4) ?_ _ _ _ _ _ h ⟨hP, hS, lv_sub hl [2, 3, 1, 0] rfl⟩
  intro rc4_965 ih4_966 q H locs ls h hI
  obtain ⟨x2_4_963, x3_4_964⟩ := q
  obtain ⟨hP, hS, hl⟩ := hI
  have hP : smP D cA 1 adr M H := hP
  have hl : lv_has ls 4 [(0, .ref (adr a0)), (1, .ref (adr a1)), (2, .int x2_4_963), (3, .int x3_4_964)] := hl
  have h : m_X5_greatestIn_b4 a0 a1 M rc4_965 x2_4_963 x3_4_964 = some _ := h
  unfold m_X5_greatestIn_b4 at h
  refine lv_iload_n hx hb dX5_greatestIn_4 rfl (lv_at hl 3 rfl) ?_
  refine lv_aload_n hx hb dX5_greatestIn_5 rfl (lv_at hl 0 rfl) ?_
  refine sm_get (ci := 5) (C := RX5) (T := TX5) (N := 4) (v := .int (M a0 0)) hx hb hts hin5 hown hE hP ha0 rfl rfl 0 (by decide) (hts (.fieldLink RX5 27 "OrderMover$Polynomial" "howMany" "I") (by decide +kernel)) (fun _ h9 => h9) rfl dX5_greatestIn_6 ?_
  refine lv_icmp_ge (tgt := 51) hx hb dX5_greatestIn_9 (by decide) (fun c9_967 => ?_) (fun c9_967 => ?_)
  · rw [if_pos c9_967] at h
    refine lv_iload_n hx hb dX5_greatestIn_51 rfl (lv_at hl 2 rfl) ?_
    cases h
    exact sm_iret hx hb hr hlocks hP hS dX5_greatestIn_52
  · rw [if_neg c9_967] at h
    refine lv_aload_n hx hb dX5_greatestIn_12 rfl (lv_at hl 1 rfl) ?_
    refine lv_aload_n hx hb dX5_greatestIn_13 rfl (lv_at hl 0 rfl) ?_
    refine sm_get (ci := 5) (C := RX5) (T := TX5) (N := 4) (v := .ref (adr (a0 + 2))) hx hb hts hin5 hown hE hP ha0 rfl rfl 2 (by decide) (hts (.fieldLink RX5 21 "OrderMover$Polynomial" "xs" "[I") (by decide +kernel)) (fun _ h9 => h9) rfl dX5_greatestIn_14 ?_
    refine lv_iload_n hx hb dX5_greatestIn_17 rfl (lv_at hl 2 rfl) ?_
    obtain ⟨c18_968, h⟩ := sm_ck h
    refine sm_iald hx hb hE hP (t5_2 ha0) c18_968 dX5_greatestIn_18 ?_
    refine lv_aload_n hx hb dX5_greatestIn_19 rfl (lv_at hl 0 rfl) ?_
    refine sm_get (ci := 5) (C := RX5) (T := TX5) (N := 4) (v := .ref (adr (a0 + 3))) hx hb hts hin5 hown hE hP ha0 rfl rfl 3 (by decide) (hts (.fieldLink RX5 24 "OrderMover$Polynomial" "ys" "[I") (by decide +kernel)) (fun _ h9 => h9) rfl dX5_greatestIn_20 ?_
    refine lv_iload_n hx hb dX5_greatestIn_23 rfl (lv_at hl 2 rfl) ?_
    obtain ⟨c24_969, h⟩ := sm_ck h
    refine sm_iald hx hb hE hP (t5_3 ha0) c24_969 dX5_greatestIn_24 ?_
    refine lv_aload_n hx hb dX5_greatestIn_25 rfl (lv_at hl 0 rfl) ?_
    refine sm_get (ci := 5) (C := RX5) (T := TX5) (N := 4) (v := .ref (adr (a0 + 2))) hx hb hts hin5 hown hE hP ha0 rfl rfl 2 (by decide) (hts (.fieldLink RX5 21 "OrderMover$Polynomial" "xs" "[I") (by decide +kernel)) (fun _ h9 => h9) rfl dX5_greatestIn_26 ?_
    refine lv_iload_n hx hb dX5_greatestIn_29 rfl (lv_at hl 3 rfl) ?_
    obtain ⟨c30_970, h⟩ := sm_ck h
    refine sm_iald hx hb hE hP (t5_2 ha0) c30_970 dX5_greatestIn_30 ?_
    refine lv_aload_n hx hb dX5_greatestIn_31 rfl (lv_at hl 0 rfl) ?_
    refine sm_get (ci := 5) (C := RX5) (T := TX5) (N := 4) (v := .ref (adr (a0 + 3))) hx hb hts hin5 hown hE hP ha0 rfl rfl 3 (by decide) (hts (.fieldLink RX5 24 "OrderMover$Polynomial" "ys" "[I") (by decide +kernel)) (fun _ h9 => h9) rfl dX5_greatestIn_32 ?_
    refine lv_iload_n hx hb dX5_greatestIn_35 rfl (lv_at hl 3 rfl) ?_
    obtain ⟨c36_971, h⟩ := sm_ck h
    refine sm_iald hx hb hE hP (t5_3 ha0) c36_971 dX5_greatestIn_36 ?_
    obtain ⟨v37_972, hc37_974, h⟩ := sm_bd h
    refine sm_ci (va_runV (As := [.int (M (a0 + 2) (x2_4_963).toNatClampNeg), .int (M (a0 + 3) (x2_4_963).toNatClampNeg), .int (M (a0 + 2) (x3_4_964).toNatClampNeg), .int (M (a0 + 3) (x3_4_964).toNatClampNeg)]) (rest := []) ⟨hx, hb, hml, hown, hts⟩ (k_X10_isLess l D cA adr hJ a1 (M (a0 + 2) (x2_4_963).toNatClampNeg) (M (a0 + 3) (x2_4_963).toNatClampNeg) (M (a0 + 2) (x3_4_964).toNatClampNeg) (M (a0 + 3) (x3_4_964).toNatClampNeg) ha1 M v37_972 hc37_974) (cwV 4 hts gX5_greatestIn_X10_isLess rfl rfl rfl (by decide +kernel) ⟨Nat.le_of_ble_eq_true rfl, Nat.le_of_ble_eq_true rfl⟩) ⟨smPc_bl, smRv hE hP ha1 rfl (ci := 10) (q := (RX10, TX10, 3)) rfl, smPc_in [.ref (adr a1), .int (M (a0 + 2) (x2_4_963).toNatClampNeg), .int (M (a0 + 3) (x2_4_963).toNatClampNeg), .int (M (a0 + 2) (x3_4_964).toNatClampNeg), .int (M (a0 + 3) (x3_4_964).toNatClampNeg)] hE hP⟩ rfl rfl hl.1 rfl (lv_room (Nat.le_of_ble_eq_true rfl)) dX5_greatestIn_37 ⟨Nat.zero_le _, Nat.zero_le _⟩) hS (fun H locs hP hS => ?_)
    refine lv_if_eq (tgt := 45) hx hb dX5_greatestIn_40 (by decide) (fun c40_975 => ?_) (fun c40_975 => ?_)
    · rw [if_pos c40_975] at h
      refine lv_iinc (v := (x3_4_964 + (1 : Int32))) (lv' := [(3, .int (x3_4_964 + (1 : Int32))), (0, .ref (adr a0)), (1, .ref (adr a1)), (2, .int x2_4_963)]) hx hb dX5_greatestIn_45 hl (k := 3) rfl (congrArg (fun z => x3_4_964 + z) (by decide)) (by decide) rfl (fun ls hl => ?_)
      refine lv_goto (tgt := 4) hx hb dX5_greatestIn_48 (by decide) ?_
      exact ih4_966 (x2_4_963, (x3_4_964 + (1 : Int32))) _ _ _ h ⟨hP, hS, lv_sub hl [1, 2, 3, 0] rfl⟩
    · rw [if_neg c40_975] at h
      refine lv_iload_n hx hb dX5_greatestIn_43 rfl (lv_at hl 3 rfl) ?_
      refine lv_istore_n (lv' := [(2, .int x3_4_964), (0, .ref (adr a0)), (1, .ref (adr a1)), (3, .int x3_4_964)]) hx hb dX5_greatestIn_44 rfl hl (by decide) rfl (fun ls hl => ?_)
      refine lv_iinc (v := (x3_4_964 + (1 : Int32))) (lv' := [(3, .int (x3_4_964 + (1 : Int32))), (2, .int x3_4_964), (0, .ref (adr a0)), (1, .ref (adr a1))]) hx hb dX5_greatestIn_45 hl (k := 3) rfl (congrArg (fun z => x3_4_964 + z) (by decide)) (by decide) rfl (fun ls hl => ?_)
      refine lv_goto (tgt := 4) hx hb dX5_greatestIn_48 (by decide) ?_
      exact ih4_966 (x3_4_964, (x3_4_964 + (1 : Int32))) _ _ _ h ⟨hP, hS, lv_sub hl [2, 3, 1, 0] rfl⟩
set_option maxHeartbeats 4000000 in
set_option maxRecDepth 100000 in
theorem k_X5_greatestSum (l : Launch) (D : va_G) (cA : Nat → ClassId) (adr : Nat → Nat) (hJ : smJ 1 adr) (a0 : Nat) (ha0 : smT 1 a0 5) (M : smM) (v1 : Int64) (h : m_X5_greatestSum a0 M = some v1) : Met l yX5_greatestSum wsX5_greatestSum ({ frames := 1, cells := 0, slots := 0, locals := 27 }) (smPc D cA 1 adr M [.ref (adr a0)]) (smQl D cA 1 adr M v1) 0 0 (smA 1 adr) := by
  refine Met.ofW (cc := cX5_greatestSum) (maxL := 4) (ret := (some .long)) (by decide) rfl ?_
  intro p e s m args below meth c s₁ B hml hv
  obtain ⟨rfl, hE, hP⟩ := hv
  have hx := B.exec
  have hb := B.bytes
  have hr := B.returns
  have hts := atoms_spec (ws := wsX5_greatestSum) B.pre
  have hown : s.vm.findClass RX5 = some m.cls := findClass_of_methodNamed B.named
  have hlocks := B.notSynchronized
  have hS : va_S (smA 1 adr) s.heap s.heap [] := va_S.rf
  have hP : smP D cA 1 adr M s.heap := hP
  have hl := lv_entry ([.ref (adr a0)]) (n := 4) (Nat.le_of_ble_eq_true rfl)
  rw [lg_entry_eq]
  generalize (lg_sl ([.ref (adr a0)]) ++ List.replicate (4 - (lg_sl ([.ref (adr a0)])).length) Slot.unset).toArray = ls at hl ⊢
  have hl : lv_has ls 4 [(0, .ref (adr a0))] := hl
  unfold m_X5_greatestSum at h
  have hin5 : ∀ w ∈ u_ws RX5 TX5 4, w ∈ wsX5_greatestSum := by decide +kernel
  refine lv_lconst (v := (0 : Int64)) hx hb dX5_greatestSum_0 (by decide) ?_
  refine lv_lstore_n (lv' := [(1, .long (0 : Int64)), (0, .ref (adr a0))]) hx hb dX5_greatestSum_1 rfl hl (by decide) rfl (fun ls hl => ?_)
  refine lv_iconst (v := (0 : Int32)) hx hb dX5_greatestSum_2 (by decide) ?_
  refine lv_istore_n (lv' := [(3, .int (0 : Int32)), (1, .long (0 : Int64)), (0, .ref (adr a0))]) hx hb dX5_greatestSum_3 rfl hl (by decide) rfl (fun ls hl => ?_)
  refine sm_lp (b := fun rc q => m_X5_greatestSum_b4 a0 M rc q.1 q.2) (P := fun (q : Int64 × Int32) H locs ls => smP D cA 1 adr M H ∧ va_S (smA 1 adr) s.heap H locs ∧ lv_has ls 4 [(0, .ref (adr a0)), (1, .long q.1), (3, .int q.2)]) (pc := 4) ?_ _ _ _ _ _ h ⟨hP, hS, lv_sub hl [2, 1, 0] rfl⟩
  intro rc4_978 ih4_979 q H locs ls h hI
  obtain ⟨z1_4_976, x3_4_977⟩ := q
  obtain ⟨hP, hS, hl⟩ := hI
  have hP : smP D cA 1 adr M H := hP
  have hl : lv_has ls 4 [(0, .ref (adr a0)), (1, .long z1_4_976), (3, .int x3_4_977)] := hl
  have h : m_X5_greatestSum_b4 a0 M rc4_978 z1_4_976 x3_4_977 = some _ := h
  unfold m_X5_greatestSum_b4 at h
  refine lv_iload_n hx hb dX5_greatestSum_4 rfl (lv_at hl 2 rfl) ?_
  refine lv_aload_n hx hb dX5_greatestSum_5 rfl (lv_at hl 0 rfl) ?_
  refine sm_get (ci := 5) (C := RX5) (T := TX5) (N := 4) (v := .int (M a0 0)) hx hb hts hin5 hown hE hP ha0 rfl rfl 0 (by decide) (hts (.fieldLink RX5 27 "OrderMover$Polynomial" "howMany" "I") (by decide +kernel)) (fun _ h9 => h9) rfl dX5_greatestSum_6 ?_
  refine lv_icmp_ge (tgt := 38) hx hb dX5_greatestSum_9 (by decide) (fun c9_980 => ?_) (fun c9_980 => ?_)
  · rw [if_pos c9_980] at h
    refine lv_lload_n hx hb dX5_greatestSum_38 rfl (lv_at hl 1 rfl) ?_
    cases h
    exact sm_lret hx hb hr hlocks hP hS dX5_greatestSum_39
  · rw [if_neg c9_980] at h
    refine lv_lload_n hx hb dX5_greatestSum_12 rfl (lv_at hl 1 rfl) ?_
    refine lv_aload_n hx hb dX5_greatestSum_13 rfl (lv_at hl 0 rfl) ?_
    refine sm_get (ci := 5) (C := RX5) (T := TX5) (N := 4) (v := .ref (adr (a0 + 2))) hx hb hts hin5 hown hE hP ha0 rfl rfl 2 (by decide) (hts (.fieldLink RX5 21 "OrderMover$Polynomial" "xs" "[I") (by decide +kernel)) (fun _ h9 => h9) rfl dX5_greatestSum_14 ?_
    refine lv_iload_n hx hb dX5_greatestSum_17 rfl (lv_at hl 2 rfl) ?_
    obtain ⟨c18_981, h⟩ := sm_ck h
    refine sm_iald hx hb hE hP (t5_2 ha0) c18_981 dX5_greatestSum_18 ?_
    refine lv_i2l hx hb dX5_greatestSum_19 rfl ?_
    refine lv_aload_n hx hb dX5_greatestSum_20 rfl (lv_at hl 0 rfl) ?_
    refine sm_get (ci := 5) (C := RX5) (T := TX5) (N := 4) (v := .ref (adr (a0 + 3))) hx hb hts hin5 hown hE hP ha0 rfl rfl 3 (by decide) (hts (.fieldLink RX5 24 "OrderMover$Polynomial" "ys" "[I") (by decide +kernel)) (fun _ h9 => h9) rfl dX5_greatestSum_21 ?_
    refine lv_iload_n hx hb dX5_greatestSum_24 rfl (lv_at hl 2 rfl) ?_
    obtain ⟨c25_982, h⟩ := sm_ck h
    refine sm_iald hx hb hE hP (t5_3 ha0) c25_982 dX5_greatestSum_25 ?_
    refine lv_i2l hx hb dX5_greatestSum_26 rfl ?_
    refine lv_ladd hx hb dX5_greatestSum_27 ?_
    refine va_mmax_long hx hb (by rw [hml, hl.1]) hown (hts (.methodLink RX5 48 Lib.MathLoose.max_long.x) (by decide +kernel)) (hts (.static Lib.MathLoose.max_long.x) (by decide +kernel)) (hts (.initialized "java/lang/Math") (by decide +kernel)) (hts (.code Lib.MathLoose.max_long.x Lib.MathLoose.max_long.code 4 (some .long)) (by decide +kernel)) (Nat.le_of_ble_eq_true rfl) (Nat.le_of_ble_eq_true rfl) (Nat.zero_le _) (Nat.zero_le _) dX5_greatestSum_28 ?_
    refine lv_lstore_n (lv' := [(1, .long (if (((M (a0 + 2) (x3_4_977).toNatClampNeg)).toInt64 + ((M (a0 + 3) (x3_4_977).toNatClampNeg)).toInt64) < z1_4_976 then z1_4_976 else (((M (a0 + 2) (x3_4_977).toNatClampNeg)).toInt64 + ((M (a0 + 3) (x3_4_977).toNatClampNeg)).toInt64))), (0, .ref (adr a0)), (3, .int x3_4_977)]) hx hb dX5_greatestSum_31 rfl hl (by decide) rfl (fun ls hl => ?_)
    refine lv_iinc (v := (x3_4_977 + (1 : Int32))) (lv' := [(3, .int (x3_4_977 + (1 : Int32))), (1, .long (if (((M (a0 + 2) (x3_4_977).toNatClampNeg)).toInt64 + ((M (a0 + 3) (x3_4_977).toNatClampNeg)).toInt64) < z1_4_976 then z1_4_976 else (((M (a0 + 2) (x3_4_977).toNatClampNeg)).toInt64 + ((M (a0 + 3) (x3_4_977).toNatClampNeg)).toInt64))), (0, .ref (adr a0))]) hx hb dX5_greatestSum_32 hl (k := 2) rfl (congrArg (fun z => x3_4_977 + z) (by decide)) (by decide) rfl (fun ls hl => ?_)
    refine lv_goto (tgt := 4) hx hb dX5_greatestSum_35 (by decide) ?_
    exact ih4_979 ((if (((M (a0 + 2) (x3_4_977).toNatClampNeg)).toInt64 + ((M (a0 + 3) (x3_4_977).toNatClampNeg)).toInt64) < z1_4_976 then z1_4_976 else (((M (a0 + 2) (x3_4_977).toNatClampNeg)).toInt64 + ((M (a0 + 3) (x3_4_977).toNatClampNeg)).toInt64)), (x3_4_977 + (1 : Int32))) _ _ _ h ⟨hP, hS, lv_sub hl [2, 1, 0] rfl⟩
