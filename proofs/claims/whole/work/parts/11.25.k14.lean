set_option maxHeartbeats 4000000 in
set_option maxRecDepth 100000 in
theorem k_X12_applies (l : Launch) (D : va_G) (cA : Nat → ClassId) (adr : Nat → Nat) (hJ : smJ 2 adr) (a0 : Nat) (a1 : Nat) (ha0 : smT 2 a0 12) (ha1 : smT 2 a1 20) (M : smM) (M1 : smM) (h : m_X12_applies a0 a1 M = some M1) : Met l yX12_applies wsX12_applies ({ frames := 1, cells := 0, slots := 0, locals := 20 }) (smPc D cA 2 adr M [.ref (adr a0), .ref (adr a1)]) (smQv D cA 2 adr M1) 0 0 (smA 2 adr) := by
  refine Met.ofW (cc := cX12_applies) (maxL := 5) (ret := none) (by decide) rfl ?_
  intro p e s m args below meth c s₁ B hml hv
  obtain ⟨rfl, hE, hP⟩ := hv
  have hx := B.exec
  have hb := B.bytes
  have hr := B.returns
  have hts := atoms_spec (ws := wsX12_applies) B.pre
  have hown : s.vm.findClass RX12 = some m.cls := findClass_of_methodNamed B.named
  have hlocks := B.notSynchronized
  have hS : va_S (smA 2 adr) s.heap s.heap [] := va_S.rf
  have hP : smP D cA 2 adr M s.heap := hP
  have hl := lv_entry ([.ref (adr a0), .ref (adr a1)]) (n := 5) (Nat.le_of_ble_eq_true rfl)
  rw [lg_entry_eq]
  generalize (lg_sl ([.ref (adr a0), .ref (adr a1)]) ++ List.replicate (5 - (lg_sl ([.ref (adr a0), .ref (adr a1)])).length) Slot.unset).toArray = ls at hl ⊢
  have hl : lv_has ls 5 [(0, .ref (adr a0)), (1, .ref (adr a1))] := hl
  unfold m_X12_applies at h
  have hin12 : ∀ w ∈ u_ws RX12 TX12 54, w ∈ wsX12_applies := by decide +kernel
  refine lv_aload_n hx hb dX12_applies_0 rfl (lv_at hl 0 rfl) ?_
  obtain ⟨v1_1933, hc1_1935, h⟩ := sm_bd h
  refine sm_ci (va_runV (As := []) (rest := []) ⟨hx, hb, hml, hown, hts⟩ (k_X12_dimension l D cA adr hJ a0 ha0 M v1_1933 hc1_1935) (cwV 0 hts gX12_applies_X12_dimension rfl rfl rfl (by decide +kernel) ⟨Nat.le_of_ble_eq_true rfl, Nat.le_of_ble_eq_true rfl⟩) ⟨smPc_bl, smRv hE hP ha0 rfl (ci := 12) (q := (RX12, TX12, 54)) rfl, smPc_in [.ref (adr a0)] hE hP⟩ rfl rfl hl.1 rfl (lv_room (Nat.le_of_ble_eq_true rfl)) dX12_applies_1 ⟨Nat.zero_le _, Nat.zero_le _⟩) hS (fun H locs hP hS => ?_)
  refine lv_istore_n (lv' := [(2, .int v1_1933), (0, .ref (adr a0)), (1, .ref (adr a1))]) hx hb dX12_applies_4 rfl hl (by decide) rfl (fun ls hl => ?_)
  refine lv_iconst (v := (0 : Int32)) hx hb dX12_applies_5 (by decide) ?_
  refine lv_istore_n (lv' := [(3, .int (0 : Int32)), (2, .int v1_1933), (0, .ref (adr a0)), (1, .ref (adr a1))]) hx hb dX12_applies_6 rfl hl (by decide) rfl (fun ls hl => ?_)
  refine sm_lp (b := fun rc q => m_X12_applies_b7 a0 a1 v1_1933 rc q.1 q.2) (P := fun (q : Int32 × smM) H locs ls => smP D cA 2 adr q.2 H ∧ va_S (smA 2 adr) s.heap H locs ∧ lv_has ls 5 [(0, .ref (adr a0)), (1, .ref (adr a1)), (2, .int v1_1933), (3, .int q.1)]) (pc := 7) ?_ _ _ _ _ _ h ⟨hP, hS, lv_sub hl [2, 3, 1, 0] rfl⟩
  intro rc7_1938 ih7_1939 q H locs ls h hI
  obtain ⟨x3_7_1936, M7_1937⟩ := q
  obtain ⟨hP, hS, hl⟩ := hI
  have hP : smP D cA 2 adr M7_1937 H := hP
  have hl : lv_has ls 5 [(0, .ref (adr a0)), (1, .ref (adr a1)), (2, .int v1_1933), (3, .int x3_7_1936)] := hl
  have h : m_X12_applies_b7 a0 a1 v1_1933 rc7_1938 x3_7_1936 M7_1937 = some _ := h
  unfold m_X12_applies_b7 at h
  refine lv_iload_n hx hb dX12_applies_7 rfl (lv_at hl 3 rfl) ?_
  refine lv_bipush (v := (9 : Int32)) hx hb dX12_applies_8 (by decide) ?_
  refine lv_icmp_ge (tgt := 26) hx hb dX12_applies_10 (by decide) (fun c10_1940 => ?_) (fun c10_1940 => ?_)
  · rw [if_pos c10_1940] at h
    refine lv_iconst (v := (0 : Int32)) hx hb dX12_applies_26 (by decide) ?_
    refine lv_istore_n (lv' := [(3, .int (0 : Int32)), (0, .ref (adr a0)), (1, .ref (adr a1)), (2, .int v1_1933)]) hx hb dX12_applies_27 rfl hl (by decide) rfl (fun ls hl => ?_)
    refine sm_lp (b := fun rc q => m_X12_applies_b28 a0 a1 v1_1933 rc7_1938 rc q.1 q.2) (P := fun (q : Int32 × smM) H locs ls => smP D cA 2 adr q.2 H ∧ va_S (smA 2 adr) s.heap H locs ∧ lv_has ls 5 [(0, .ref (adr a0)), (1, .ref (adr a1)), (2, .int v1_1933), (3, .int q.1)]) (pc := 28) ?_ _ _ _ _ _ h ⟨hP, hS, lv_sub hl [1, 2, 3, 0] rfl⟩
    intro rc28_1943 ih28_1944 q H locs ls h hI
    obtain ⟨x3_28_1941, M28_1942⟩ := q
    obtain ⟨hP, hS, hl⟩ := hI
    have hP : smP D cA 2 adr M28_1942 H := hP
    have hl : lv_has ls 5 [(0, .ref (adr a0)), (1, .ref (adr a1)), (2, .int v1_1933), (3, .int x3_28_1941)] := hl
    have h : m_X12_applies_b28 a0 a1 v1_1933 rc7_1938 rc28_1943 x3_28_1941 M28_1942 = some _ := h
    unfold m_X12_applies_b28 at h
    refine lv_iload_n hx hb dX12_applies_28 rfl (lv_at hl 3 rfl) ?_
    refine lv_iload_n hx hb dX12_applies_29 rfl (lv_at hl 2 rfl) ?_
    refine lv_icmp_ge (tgt := 90) hx hb dX12_applies_30 (by decide) (fun c30_1945 => ?_) (fun c30_1945 => ?_)
    · rw [if_pos c30_1945] at h
      refine lv_iconst (v := (0 : Int32)) hx hb dX12_applies_90 (by decide) ?_
      refine lv_istore_n (lv' := [(3, .int (0 : Int32)), (0, .ref (adr a0)), (1, .ref (adr a1)), (2, .int v1_1933)]) hx hb dX12_applies_91 rfl hl (by decide) rfl (fun ls hl => ?_)
      refine sm_lp (b := fun rc q => m_X12_applies_b92 a0 rc7_1938 rc28_1943 rc q.1 q.2) (P := fun (q : Int32 × smM) H locs ls => smP D cA 2 adr q.2 H ∧ va_S (smA 2 adr) s.heap H locs ∧ lv_has ls 5 [(0, .ref (adr a0)), (3, .int q.1)]) (pc := 92) ?_ _ _ _ _ _ h ⟨hP, hS, lv_sub hl [1, 0] rfl⟩
      intro rc92_1948 ih92_1949 q H locs ls h hI
      obtain ⟨x3_92_1946, M92_1947⟩ := q
      obtain ⟨hP, hS, hl⟩ := hI
      have hP : smP D cA 2 adr M92_1947 H := hP
      have hl : lv_has ls 5 [(0, .ref (adr a0)), (3, .int x3_92_1946)] := hl
      have h : m_X12_applies_b92 a0 rc7_1938 rc28_1943 rc92_1948 x3_92_1946 M92_1947 = some _ := h
      unfold m_X12_applies_b92 at h
      refine lv_iload_n hx hb dX12_applies_92 rfl (lv_at hl 1 rfl) ?_
      refine lv_bipush (v := (9 : Int32)) hx hb dX12_applies_93 (by decide) ?_
      refine lv_icmp_ge (tgt := 116) hx hb dX12_applies_95 (by decide) (fun c95_1950 => ?_) (fun c95_1950 => ?_)
      · rw [if_pos c95_1950] at h
        cases h
        exact sm_vret hx hb hr hlocks hP hS dX12_applies_116
      · rw [if_neg c95_1950] at h
        refine lv_aload_n hx hb dX12_applies_98 rfl (lv_at hl 0 rfl) ?_
        refine sm_get (ci := 12) (C := RX12) (T := TX12) (N := 54) (v := .ref (adr (a0 + 20))) hx hb hts hin12 hown hE hP ha0 rfl rfl 24 (by decide) (hts (.fieldLink RX12 84 "OrderMoverModel" "form" "[I") (by decide +kernel)) (fun _ h9 => h9) rfl dX12_applies_99 ?_
        refine lv_iload_n hx hb dX12_applies_102 rfl (lv_at hl 1 rfl) ?_
        refine lv_aload_n hx hb dX12_applies_103 rfl (lv_at hl 0 rfl) ?_
        refine sm_get (ci := 12) (C := RX12) (T := TX12) (N := 54) (v := .ref (adr (a0 + 21))) hx hb hts hin12 hown hE hP ha0 rfl rfl 25 (by decide) (hts (.fieldLink RX12 87 "OrderMoverModel" "next" "[I") (by decide +kernel)) (fun _ h9 => h9) rfl dX12_applies_104 ?_
        refine lv_iload_n hx hb dX12_applies_107 rfl (lv_at hl 1 rfl) ?_
        obtain ⟨c108_1951, h⟩ := sm_ck h
        refine sm_iald hx hb hE hP (t12_25 ha0) c108_1951 dX12_applies_108 ?_
        obtain ⟨c109_1952, h⟩ := sm_ck h
        refine sm_iast hx hb hE hJ hP hS (t12_24 ha0) c109_1952 dX12_applies_109 (fun H locs hP hS => ?_)
        obtain ⟨M109_1953, hM, h⟩ := sm_lt h
        rw [← hM] at hP; clear hM
        refine lv_iinc (v := (x3_92_1946 + (1 : Int32))) (lv' := [(3, .int (x3_92_1946 + (1 : Int32))), (0, .ref (adr a0))]) hx hb dX12_applies_110 hl (k := 1) rfl (congrArg (fun z => x3_92_1946 + z) (by decide)) (by decide) rfl (fun ls hl => ?_)
        refine lv_goto (tgt := 92) hx hb dX12_applies_113 (by decide) ?_
        exact ih92_1949 ((x3_92_1946 + (1 : Int32)), M109_1953) _ _ _ h ⟨hP, hS, lv_sub hl [1, 0] rfl⟩
    · rw [if_neg c30_1945] at h
      refine lv_iconst (v := (0 : Int32)) hx hb dX12_applies_33 (by decide) ?_
      refine lv_istore (lv' := [(4, .int (0 : Int32)), (0, .ref (adr a0)), (1, .ref (adr a1)), (2, .int v1_1933), (3, .int x3_28_1941)]) hx hb dX12_applies_34 hl (by decide) rfl (fun ls hl => ?_)
      refine sm_lp (b := fun rc q => m_X12_applies_b36 a0 a1 v1_1933 x3_28_1941 rc7_1938 rc28_1943 rc q.1 q.2) (P := fun (q : Int32 × smM) H locs ls => smP D cA 2 adr q.2 H ∧ va_S (smA 2 adr) s.heap H locs ∧ lv_has ls 5 [(0, .ref (adr a0)), (1, .ref (adr a1)), (2, .int v1_1933), (3, .int x3_28_1941), (4, .int q.1)]) (pc := 36) ?_ _ _ _ _ _ h ⟨hP, hS, lv_sub hl [1, 2, 3, 4, 0] rfl⟩
      intro rc36_1956 ih36_1957 q H locs ls h hI
      obtain ⟨x4_36_1954, M36_1955⟩ := q
      obtain ⟨hP, hS, hl⟩ := hI
      have hP : smP D cA 2 adr M36_1955 H := hP
      have hl : lv_has ls 5 [(0, .ref (adr a0)), (1, .ref (adr a1)), (2, .int v1_1933), (3, .int x3_28_1941), (4, .int x4_36_1954)] := hl
      have h : m_X12_applies_b36 a0 a1 v1_1933 x3_28_1941 rc7_1938 rc28_1943 rc36_1956 x4_36_1954 M36_1955 = some _ := h
      unfold m_X12_applies_b36 at h
      refine lv_iload hx hb dX12_applies_36 (lv_at hl 4 rfl) ?_
      refine lv_iload_n hx hb dX12_applies_38 rfl (lv_at hl 2 rfl) ?_
      refine lv_icmp_ge (tgt := 84) hx hb dX12_applies_39 (by decide) (fun c39_1958 => ?_) (fun c39_1958 => ?_)
      · rw [if_pos c39_1958] at h
        refine lv_iinc (v := (x3_28_1941 + (1 : Int32))) (lv' := [(3, .int (x3_28_1941 + (1 : Int32))), (0, .ref (adr a0)), (1, .ref (adr a1)), (2, .int v1_1933), (4, .int x4_36_1954)]) hx hb dX12_applies_84 hl (k := 3) rfl (congrArg (fun z => x3_28_1941 + z) (by decide)) (by decide) rfl (fun ls hl => ?_)
        refine lv_goto (tgt := 28) hx hb dX12_applies_87 (by decide) ?_
        exact ih28_1944 ((x3_28_1941 + (1 : Int32)), M36_1955) _ _ _ h ⟨hP, hS, lv_sub hl [1, 2, 3, 0] rfl⟩
      · rw [if_neg c39_1958] at h
        refine lv_aload_n hx hb dX12_applies_42 rfl (lv_at hl 0 rfl) ?_
        refine sm_get (ci := 12) (C := RX12) (T := TX12) (N := 54) (v := .ref (adr (a0 + 21))) hx hb hts hin12 hown hE hP ha0 rfl rfl 25 (by decide) (hts (.fieldLink RX12 87 "OrderMoverModel" "next" "[I") (by decide +kernel)) (fun _ h9 => h9) rfl dX12_applies_43 ?_
        refine lv_iload hx hb dX12_applies_46 (lv_at hl 4 rfl) ?_
        refine lv_aload_n hx hb dX12_applies_48 rfl (lv_at hl 0 rfl) ?_
        refine sm_get (ci := 12) (C := RX12) (T := TX12) (N := 54) (v := .ref (adr (a0 + 21))) hx hb hts hin12 hown hE hP ha0 rfl rfl 25 (by decide) (hts (.fieldLink RX12 87 "OrderMoverModel" "next" "[I") (by decide +kernel)) (fun _ h9 => h9) rfl dX12_applies_49 ?_
        refine lv_iload hx hb dX12_applies_52 (lv_at hl 4 rfl) ?_
        obtain ⟨c54_1959, h⟩ := sm_ck h
        refine sm_iald hx hb hE hP (t12_25 ha0) c54_1959 dX12_applies_54 ?_
        refine lv_aload_n hx hb dX12_applies_55 rfl (lv_at hl 0 rfl) ?_
        refine sm_get (ci := 12) (C := RX12) (T := TX12) (N := 54) (v := .ref (adr (a0 + 20))) hx hb hts hin12 hown hE hP ha0 rfl rfl 24 (by decide) (hts (.fieldLink RX12 84 "OrderMoverModel" "form" "[I") (by decide +kernel)) (fun _ h9 => h9) rfl dX12_applies_56 ?_
        refine lv_iload_n hx hb dX12_applies_59 rfl (lv_at hl 3 rfl) ?_
        obtain ⟨c60_1960, h⟩ := sm_ck h
        refine sm_iald hx hb hE hP (t12_24 ha0) c60_1960 dX12_applies_60 ?_
        refine lv_aload_n hx hb dX12_applies_61 rfl (lv_at hl 1 rfl) ?_
        refine lv_bipush (v := (9 : Int32)) hx hb dX12_applies_62 (by decide) ?_
        refine lv_iload_n hx hb dX12_applies_64 rfl (lv_at hl 3 rfl) ?_
        refine lv_imul hx hb dX12_applies_65 ?_
        refine lv_iload hx hb dX12_applies_66 (lv_at hl 4 rfl) ?_
        refine lv_iadd hx hb dX12_applies_68 ?_
        obtain ⟨c69_1961, h⟩ := sm_ck h
        refine sm_iald hx hb hE hP ha1 c69_1961 dX12_applies_69 ?_
        refine lv_imul hx hb dX12_applies_70 ?_
        refine lv_iadd hx hb dX12_applies_71 ?_
        refine lv_aload_n hx hb dX12_applies_72 rfl (lv_at hl 0 rfl) ?_
        refine sm_get (ci := 12) (C := RX12) (T := TX12) (N := 54) (v := .int (M36_1955 a0 0)) hx hb hts hin12 hown hE hP ha0 rfl rfl 0 (by decide) (hts (.fieldLink RX12 7 "OrderMoverModel" "p" "I") (by decide +kernel)) (fun _ h9 => h9) rfl dX12_applies_73 ?_
        obtain ⟨c76_1962, h⟩ := sm_ck h
        refine lv_irem hx hb dX12_applies_76 c76_1962 ?_
        obtain ⟨c77_1963, h⟩ := sm_ck h
        refine sm_iast hx hb hE hJ hP hS (t12_25 ha0) c77_1963 dX12_applies_77 (fun H locs hP hS => ?_)
        obtain ⟨M77_1964, hM, h⟩ := sm_lt h
        rw [← hM] at hP; clear hM
        refine lv_iinc (v := (x4_36_1954 + (1 : Int32))) (lv' := [(4, .int (x4_36_1954 + (1 : Int32))), (0, .ref (adr a0)), (1, .ref (adr a1)), (2, .int v1_1933), (3, .int x3_28_1941)]) hx hb dX12_applies_78 hl (k := 4) rfl (congrArg (fun z => x4_36_1954 + z) (by decide)) (by decide) rfl (fun ls hl => ?_)
        refine lv_goto (tgt := 36) hx hb dX12_applies_81 (by decide) ?_
        exact ih36_1957 ((x4_36_1954 + (1 : Int32)), M77_1964) _ _ _ h ⟨hP, hS, lv_sub hl [1, 2, 3, 4, 0] rfl⟩
  · rw [if_neg c10_1940] at h
    refine lv_aload_n hx hb dX12_applies_13 rfl (lv_at hl 0 rfl) ?_
    refine sm_get (ci := 12) (C := RX12) (T := TX12) (N := 54) (v := .ref (adr (a0 + 21))) hx hb hts hin12 hown hE hP ha0 rfl rfl 25 (by decide) (hts (.fieldLink RX12 87 "OrderMoverModel" "next" "[I") (by decide +kernel)) (fun _ h9 => h9) rfl dX12_applies_14 ?_
    refine lv_iload_n hx hb dX12_applies_17 rfl (lv_at hl 3 rfl) ?_
    refine lv_iconst (v := (0 : Int32)) hx hb dX12_applies_18 (by decide) ?_
    obtain ⟨c19_1965, h⟩ := sm_ck h
    refine sm_iast hx hb hE hJ hP hS (t12_25 ha0) c19_1965 dX12_applies_19 (fun H locs hP hS => ?_)
    obtain ⟨M19_1966, hM, h⟩ := sm_lt h
    rw [← hM] at hP; clear hM
    refine lv_iinc (v := (x3_7_1936 + (1 : Int32))) (lv' := [(3, .int (x3_7_1936 + (1 : Int32))), (0, .ref (adr a0)), (1, .ref (adr a1)), (2, .int v1_1933)]) hx hb dX12_applies_20 hl (k := 3) rfl (congrArg (fun z => x3_7_1936 + z) (by decide)) (by decide) rfl (fun ls hl => ?_)
    refine lv_goto (tgt := 7) hx hb dX12_applies_23 (by decide) ?_
    exact ih7_1939 ((x3_7_1936 + (1 : Int32)), M19_1966) _ _ _ h ⟨hP, hS, lv_sub hl [1, 2, 3, 0] rfl⟩
set_option maxHeartbeats 4000000 in
set_option maxRecDepth 100000 in
theorem k_X12_squares (l : Launch) (D : va_G) (cA : Nat → ClassId) (adr : Nat → Nat) (hJ : smJ 2 adr) (a0 : Nat) (ha0 : smT 2 a0 12) (M : smM) (M1 : smM) (h : m_X12_squares a0 M = some M1) : Met l yX12_squares wsX12_squares ({ frames := 1, cells := 0, slots := 0, locals := 20 }) (smPc D cA 2 adr M [.ref (adr a0)]) (smQv D cA 2 adr M1) 0 0 (smA 2 adr) := by
  refine Met.ofW (cc := cX12_squares) (maxL := 6) (ret := none) (by decide) rfl ?_
  intro p e s m args below meth c s₁ B hml hv
  obtain ⟨rfl, hE, hP⟩ := hv
  have hx := B.exec
  have hb := B.bytes
  have hr := B.returns
  have hts := atoms_spec (ws := wsX12_squares) B.pre
  have hown : s.vm.findClass RX12 = some m.cls := findClass_of_methodNamed B.named
  have hlocks := B.notSynchronized
  have hS : va_S (smA 2 adr) s.heap s.heap [] := va_S.rf
  have hP : smP D cA 2 adr M s.heap := hP
  have hl := lv_entry ([.ref (adr a0)]) (n := 6) (Nat.le_of_ble_eq_true rfl)
  rw [lg_entry_eq]
  generalize (lg_sl ([.ref (adr a0)]) ++ List.replicate (6 - (lg_sl ([.ref (adr a0)])).length) Slot.unset).toArray = ls at hl ⊢
  have hl : lv_has ls 6 [(0, .ref (adr a0))] := hl
  unfold m_X12_squares at h
  have hin12 : ∀ w ∈ u_ws RX12 TX12 54, w ∈ wsX12_squares := by decide +kernel
  refine lv_aload_n hx hb dX12_squares_0 rfl (lv_at hl 0 rfl) ?_
  obtain ⟨v1_1967, hc1_1969, h⟩ := sm_bd h
  refine sm_ci (va_runV (As := []) (rest := []) ⟨hx, hb, hml, hown, hts⟩ (k_X12_dimension l D cA adr hJ a0 ha0 M v1_1967 hc1_1969) (cwV 0 hts gX12_squares_X12_dimension rfl rfl rfl (by decide +kernel) ⟨Nat.le_of_ble_eq_true rfl, Nat.le_of_ble_eq_true rfl⟩) ⟨smPc_bl, smRv hE hP ha0 rfl (ci := 12) (q := (RX12, TX12, 54)) rfl, smPc_in [.ref (adr a0)] hE hP⟩ rfl rfl hl.1 rfl (lv_room (Nat.le_of_ble_eq_true rfl)) dX12_squares_1 ⟨Nat.zero_le _, Nat.zero_le _⟩) hS (fun H locs hP hS => ?_)
  refine lv_istore_n (lv' := [(1, .int v1_1967), (0, .ref (adr a0))]) hx hb dX12_squares_4 rfl hl (by decide) rfl (fun ls hl => ?_)
  refine lv_iconst (v := (0 : Int32)) hx hb dX12_squares_5 (by decide) ?_
  refine lv_istore_n (lv' := [(2, .int (0 : Int32)), (1, .int v1_1967), (0, .ref (adr a0))]) hx hb dX12_squares_6 rfl hl (by decide) rfl (fun ls hl => ?_)
  refine sm_lp (b := fun rc q => m_X12_squares_b7 a0 v1_1967 rc q.1 q.2) (P := fun (q : Int32 × smM) H locs ls => smP D cA 2 adr q.2 H ∧ va_S (smA 2 adr) s.heap H locs ∧ lv_has ls 6 [(0, .ref (adr a0)), (1, .int v1_1967), (2, .int q.1)]) (pc := 7) ?_ _ _ _ _ _ h ⟨hP, hS, lv_sub hl [2, 1, 0] rfl⟩
  intro rc7_1972 ih7_1973 q H locs ls h hI
  obtain ⟨x2_7_1970, M7_1971⟩ := q
  obtain ⟨hP, hS, hl⟩ := hI
  have hP : smP D cA 2 adr M7_1971 H := hP
  have hl : lv_has ls 6 [(0, .ref (adr a0)), (1, .int v1_1967), (2, .int x2_7_1970)] := hl
  have h : m_X12_squares_b7 a0 v1_1967 rc7_1972 x2_7_1970 M7_1971 = some _ := h
  unfold m_X12_squares_b7 at h
  refine lv_iload_n hx hb dX12_squares_7 rfl (lv_at hl 2 rfl) ?_
  refine lv_iload_n hx hb dX12_squares_8 rfl (lv_at hl 1 rfl) ?_
  refine lv_icmp_ge (tgt := 97) hx hb dX12_squares_9 (by decide) (fun c9_1974 => ?_) (fun c9_1974 => ?_)
  · rw [if_pos c9_1974] at h
    refine lv_iconst (v := (0 : Int32)) hx hb dX12_squares_97 (by decide) ?_
    refine lv_istore_n (lv' := [(2, .int (0 : Int32)), (0, .ref (adr a0)), (1, .int v1_1967)]) hx hb dX12_squares_98 rfl hl (by decide) rfl (fun ls hl => ?_)
    refine sm_lp (b := fun rc q => m_X12_squares_b99 a0 rc7_1972 rc q.1 q.2) (P := fun (q : Int32 × smM) H locs ls => smP D cA 2 adr q.2 H ∧ va_S (smA 2 adr) s.heap H locs ∧ lv_has ls 6 [(0, .ref (adr a0)), (2, .int q.1)]) (pc := 99) ?_ _ _ _ _ _ h ⟨hP, hS, lv_sub hl [1, 0] rfl⟩
    intro rc99_1977 ih99_1978 q H locs ls h hI
    obtain ⟨x2_99_1975, M99_1976⟩ := q
    obtain ⟨hP, hS, hl⟩ := hI
    have hP : smP D cA 2 adr M99_1976 H := hP
    have hl : lv_has ls 6 [(0, .ref (adr a0)), (2, .int x2_99_1975)] := hl
    have h : m_X12_squares_b99 a0 rc7_1972 rc99_1977 x2_99_1975 M99_1976 = some _ := h
    unfold m_X12_squares_b99 at h
    refine lv_iload_n hx hb dX12_squares_99 rfl (lv_at hl 1 rfl) ?_
    refine lv_bipush (v := (81 : Int32)) hx hb dX12_squares_100 (by decide) ?_
    refine lv_icmp_ge (tgt := 123) hx hb dX12_squares_102 (by decide) (fun c102_1979 => ?_) (fun c102_1979 => ?_)
    · rw [if_pos c102_1979] at h
      cases h
      exact sm_vret hx hb hr hlocks hP hS dX12_squares_123
    · rw [if_neg c102_1979] at h
      refine lv_aload_n hx hb dX12_squares_105 rfl (lv_at hl 0 rfl) ?_
      refine sm_get (ci := 12) (C := RX12) (T := TX12) (N := 54) (v := .ref (adr (a0 + 18))) hx hb hts hin12 hown hE hP ha0 rfl rfl 22 (by decide) (hts (.fieldLink RX12 78 "OrderMoverModel" "power" "[I") (by decide +kernel)) (fun _ h9 => h9) rfl dX12_squares_106 ?_
      refine lv_iload_n hx hb dX12_squares_109 rfl (lv_at hl 1 rfl) ?_
      refine lv_aload_n hx hb dX12_squares_110 rfl (lv_at hl 0 rfl) ?_
      refine sm_get (ci := 12) (C := RX12) (T := TX12) (N := 54) (v := .ref (adr (a0 + 19))) hx hb hts hin12 hown hE hP ha0 rfl rfl 23 (by decide) (hts (.fieldLink RX12 81 "OrderMoverModel" "square" "[I") (by decide +kernel)) (fun _ h9 => h9) rfl dX12_squares_111 ?_
      refine lv_iload_n hx hb dX12_squares_114 rfl (lv_at hl 1 rfl) ?_
      obtain ⟨c115_1980, h⟩ := sm_ck h
      refine sm_iald hx hb hE hP (t12_23 ha0) c115_1980 dX12_squares_115 ?_
      obtain ⟨c116_1981, h⟩ := sm_ck h
      refine sm_iast hx hb hE hJ hP hS (t12_22 ha0) c116_1981 dX12_squares_116 (fun H locs hP hS => ?_)
      obtain ⟨M116_1982, hM, h⟩ := sm_lt h
      rw [← hM] at hP; clear hM
      refine lv_iinc (v := (x2_99_1975 + (1 : Int32))) (lv' := [(2, .int (x2_99_1975 + (1 : Int32))), (0, .ref (adr a0))]) hx hb dX12_squares_117 hl (k := 1) rfl (congrArg (fun z => x2_99_1975 + z) (by decide)) (by decide) rfl (fun ls hl => ?_)
      refine lv_goto (tgt := 99) hx hb dX12_squares_120 (by decide) ?_
      exact ih99_1978 ((x2_99_1975 + (1 : Int32)), M116_1982) _ _ _ h ⟨hP, hS, lv_sub hl [1, 0] rfl⟩
  · rw [if_neg c9_1974] at h
    refine lv_iconst (v := (0 : Int32)) hx hb dX12_squares_12 (by decide) ?_
    refine lv_istore_n (lv' := [(3, .int (0 : Int32)), (0, .ref (adr a0)), (1, .int v1_1967), (2, .int x2_7_1970)]) hx hb dX12_squares_13 rfl hl (by decide) rfl (fun ls hl => ?_)
    refine sm_lp (b := fun rc q => m_X12_squares_b14 a0 v1_1967 x2_7_1970 rc7_1972 rc q.1 q.2) (P := fun (q : Int32 × smM) H locs ls => smP D cA 2 adr q.2 H ∧ va_S (smA 2 adr) s.heap H locs ∧ lv_has ls 6 [(0, .ref (adr a0)), (1, .int v1_1967), (2, .int x2_7_1970), (3, .int q.1)]) (pc := 14) ?_ _ _ _ _ _ h ⟨hP, hS, lv_sub hl [1, 2, 3, 0] rfl⟩
    intro rc14_1985 ih14_1986 q H locs ls h hI
    obtain ⟨x3_14_1983, M14_1984⟩ := q
    obtain ⟨hP, hS, hl⟩ := hI
    have hP : smP D cA 2 adr M14_1984 H := hP
    have hl : lv_has ls 6 [(0, .ref (adr a0)), (1, .int v1_1967), (2, .int x2_7_1970), (3, .int x3_14_1983)] := hl
    have h : m_X12_squares_b14 a0 v1_1967 x2_7_1970 rc7_1972 rc14_1985 x3_14_1983 M14_1984 = some _ := h
    unfold m_X12_squares_b14 at h
    refine lv_iload_n hx hb dX12_squares_14 rfl (lv_at hl 3 rfl) ?_
    refine lv_iload_n hx hb dX12_squares_15 rfl (lv_at hl 1 rfl) ?_
    refine lv_icmp_ge (tgt := 91) hx hb dX12_squares_16 (by decide) (fun c16_1987 => ?_) (fun c16_1987 => ?_)
    · rw [if_pos c16_1987] at h
      refine lv_iinc (v := (x2_7_1970 + (1 : Int32))) (lv' := [(2, .int (x2_7_1970 + (1 : Int32))), (0, .ref (adr a0)), (1, .int v1_1967), (3, .int x3_14_1983)]) hx hb dX12_squares_91 hl (k := 2) rfl (congrArg (fun z => x2_7_1970 + z) (by decide)) (by decide) rfl (fun ls hl => ?_)
      refine lv_goto (tgt := 7) hx hb dX12_squares_94 (by decide) ?_
      exact ih7_1973 ((x2_7_1970 + (1 : Int32)), M14_1984) _ _ _ h ⟨hP, hS, lv_sub hl [1, 2, 0] rfl⟩
    · rw [if_neg c16_1987] at h
      refine lv_iconst (v := (0 : Int32)) hx hb dX12_squares_19 (by decide) ?_
      refine lv_istore (lv' := [(4, .int (0 : Int32)), (0, .ref (adr a0)), (1, .int v1_1967), (2, .int x2_7_1970), (3, .int x3_14_1983)]) hx hb dX12_squares_20 hl (by decide) rfl (fun ls hl => ?_)
      refine lv_iconst (v := (0 : Int32)) hx hb dX12_squares_22 (by decide) ?_
      refine lv_istore (lv' := [(5, .int (0 : Int32)), (4, .int (0 : Int32)), (0, .ref (adr a0)), (1, .int v1_1967), (2, .int x2_7_1970), (3, .int x3_14_1983)]) hx hb dX12_squares_23 hl (by decide) rfl (fun ls hl => ?_)
      refine sm_lp (b := fun rc q => m_X12_squares_b25 a0 v1_1967 x2_7_1970 x3_14_1983 M14_1984 rc7_1972 rc14_1985 rc q.1 q.2) (P := fun (q : Int32 × Int32) H locs ls => smP D cA 2 adr M14_1984 H ∧ va_S (smA 2 adr) s.heap H locs ∧ lv_has ls 6 [(0, .ref (adr a0)), (1, .int v1_1967), (2, .int x2_7_1970), (3, .int x3_14_1983), (4, .int q.1), (5, .int q.2)]) (pc := 25) ?_ _ _ _ _ _ h ⟨hP, hS, lv_sub hl [2, 3, 4, 5, 1, 0] rfl⟩
      intro rc25_1990 ih25_1991 q H locs ls h hI
      obtain ⟨x4_25_1988, x5_25_1989⟩ := q
      obtain ⟨hP, hS, hl⟩ := hI
      have hP : smP D cA 2 adr M14_1984 H := hP
      have hl : lv_has ls 6 [(0, .ref (adr a0)), (1, .int v1_1967), (2, .int x2_7_1970), (3, .int x3_14_1983), (4, .int x4_25_1988), (5, .int x5_25_1989)] := hl
      have h : m_X12_squares_b25 a0 v1_1967 x2_7_1970 x3_14_1983 M14_1984 rc7_1972 rc14_1985 rc25_1990 x4_25_1988 x5_25_1989 = some _ := h
      unfold m_X12_squares_b25 at h
      refine lv_iload hx hb dX12_squares_25 (lv_at hl 5 rfl) ?_
      refine lv_iload_n hx hb dX12_squares_27 rfl (lv_at hl 1 rfl) ?_
      refine lv_icmp_ge (tgt := 67) hx hb dX12_squares_28 (by decide) (fun c28_1992 => ?_) (fun c28_1992 => ?_)
      · rw [if_pos c28_1992] at h
        refine lv_aload_n hx hb dX12_squares_67 rfl (lv_at hl 0 rfl) ?_
        refine sm_get (ci := 12) (C := RX12) (T := TX12) (N := 54) (v := .ref (adr (a0 + 19))) hx hb hts hin12 hown hE hP ha0 rfl rfl 23 (by decide) (hts (.fieldLink RX12 81 "OrderMoverModel" "square" "[I") (by decide +kernel)) (fun _ h9 => h9) rfl dX12_squares_68 ?_
        refine lv_bipush (v := (9 : Int32)) hx hb dX12_squares_71 (by decide) ?_
        refine lv_iload_n hx hb dX12_squares_73 rfl (lv_at hl 2 rfl) ?_
        refine lv_imul hx hb dX12_squares_74 ?_
        refine lv_iload_n hx hb dX12_squares_75 rfl (lv_at hl 3 rfl) ?_
        refine lv_iadd hx hb dX12_squares_76 ?_
        refine lv_iload hx hb dX12_squares_77 (lv_at hl 4 rfl) ?_
        refine lv_aload_n hx hb dX12_squares_79 rfl (lv_at hl 0 rfl) ?_
        refine sm_get (ci := 12) (C := RX12) (T := TX12) (N := 54) (v := .int (M14_1984 a0 0)) hx hb hts hin12 hown hE hP ha0 rfl rfl 0 (by decide) (hts (.fieldLink RX12 7 "OrderMoverModel" "p" "I") (by decide +kernel)) (fun _ h9 => h9) rfl dX12_squares_80 ?_
        obtain ⟨c83_1993, h⟩ := sm_ck h
        refine lv_irem hx hb dX12_squares_83 c83_1993 ?_
        obtain ⟨c84_1994, h⟩ := sm_ck h
        refine sm_iast hx hb hE hJ hP hS (t12_23 ha0) c84_1994 dX12_squares_84 (fun H locs hP hS => ?_)
        obtain ⟨M84_1995, hM, h⟩ := sm_lt h
        rw [← hM] at hP; clear hM
        refine lv_iinc (v := (x3_14_1983 + (1 : Int32))) (lv' := [(3, .int (x3_14_1983 + (1 : Int32))), (0, .ref (adr a0)), (1, .int v1_1967), (2, .int x2_7_1970), (4, .int x4_25_1988), (5, .int x5_25_1989)]) hx hb dX12_squares_85 hl (k := 3) rfl (congrArg (fun z => x3_14_1983 + z) (by decide)) (by decide) rfl (fun ls hl => ?_)
        refine lv_goto (tgt := 14) hx hb dX12_squares_88 (by decide) ?_
        exact ih14_1986 ((x3_14_1983 + (1 : Int32)), M84_1995) _ _ _ h ⟨hP, hS, lv_sub hl [1, 2, 3, 0] rfl⟩
      · rw [if_neg c28_1992] at h
        refine lv_iload hx hb dX12_squares_31 (lv_at hl 4 rfl) ?_
        refine lv_aload_n hx hb dX12_squares_33 rfl (lv_at hl 0 rfl) ?_
        refine sm_get (ci := 12) (C := RX12) (T := TX12) (N := 54) (v := .ref (adr (a0 + 18))) hx hb hts hin12 hown hE hP ha0 rfl rfl 22 (by decide) (hts (.fieldLink RX12 78 "OrderMoverModel" "power" "[I") (by decide +kernel)) (fun _ h9 => h9) rfl dX12_squares_34 ?_
        refine lv_bipush (v := (9 : Int32)) hx hb dX12_squares_37 (by decide) ?_
        refine lv_iload_n hx hb dX12_squares_39 rfl (lv_at hl 2 rfl) ?_
        refine lv_imul hx hb dX12_squares_40 ?_
        refine lv_iload hx hb dX12_squares_41 (lv_at hl 5 rfl) ?_
        refine lv_iadd hx hb dX12_squares_43 ?_
        obtain ⟨c44_1996, h⟩ := sm_ck h
        refine sm_iald hx hb hE hP (t12_22 ha0) c44_1996 dX12_squares_44 ?_
        refine lv_aload_n hx hb dX12_squares_45 rfl (lv_at hl 0 rfl) ?_
        refine sm_get (ci := 12) (C := RX12) (T := TX12) (N := 54) (v := .ref (adr (a0 + 18))) hx hb hts hin12 hown hE hP ha0 rfl rfl 22 (by decide) (hts (.fieldLink RX12 78 "OrderMoverModel" "power" "[I") (by decide +kernel)) (fun _ h9 => h9) rfl dX12_squares_46 ?_
        refine lv_bipush (v := (9 : Int32)) hx hb dX12_squares_49 (by decide) ?_
        refine lv_iload hx hb dX12_squares_51 (lv_at hl 5 rfl) ?_
        refine lv_imul hx hb dX12_squares_53 ?_
        refine lv_iload_n hx hb dX12_squares_54 rfl (lv_at hl 3 rfl) ?_
        refine lv_iadd hx hb dX12_squares_55 ?_
        obtain ⟨c56_1997, h⟩ := sm_ck h
        refine sm_iald hx hb hE hP (t12_22 ha0) c56_1997 dX12_squares_56 ?_
        refine lv_imul hx hb dX12_squares_57 ?_
        refine lv_iadd hx hb dX12_squares_58 ?_
        refine lv_istore (lv' := [(4, .int (x4_25_1988 + ((M14_1984 (a0 + 18) ((((9 : Int32) * x2_7_1970) + x5_25_1989)).toNatClampNeg) * (M14_1984 (a0 + 18) ((((9 : Int32) * x5_25_1989) + x3_14_1983)).toNatClampNeg)))), (0, .ref (adr a0)), (1, .int v1_1967), (2, .int x2_7_1970), (3, .int x3_14_1983), (5, .int x5_25_1989)]) hx hb dX12_squares_59 hl (by decide) rfl (fun ls hl => ?_)
        refine lv_iinc (v := (x5_25_1989 + (1 : Int32))) (lv' := [(5, .int (x5_25_1989 + (1 : Int32))), (4, .int (x4_25_1988 + ((M14_1984 (a0 + 18) ((((9 : Int32) * x2_7_1970) + x5_25_1989)).toNatClampNeg) * (M14_1984 (a0 + 18) ((((9 : Int32) * x5_25_1989) + x3_14_1983)).toNatClampNeg)))), (0, .ref (adr a0)), (1, .int v1_1967), (2, .int x2_7_1970), (3, .int x3_14_1983)]) hx hb dX12_squares_61 hl (k := 5) rfl (congrArg (fun z => x5_25_1989 + z) (by decide)) (by decide) rfl (fun ls hl => ?_)
        refine lv_goto (tgt := 25) hx hb dX12_squares_64 (by decide) ?_
        exact ih25_1991 ((x4_25_1988 + ((M14_1984 (a0 + 18) ((((9 : Int32) * x2_7_1970) + x5_25_1989)).toNatClampNeg) * (M14_1984 (a0 + 18) ((((9 : Int32) * x5_25_1989) + x3_14_1983)).toNatClampNeg))), (x5_25_1989 + (1 : Int32))) _ _ _ h ⟨hP, hS, lv_sub hl [2, 3, 4, 5, 1, 0] rfl⟩
set_option maxHeartbeats 4000000 in
set_option maxRecDepth 100000 in
theorem k_X12_appliesOften (l : Launch) (D : va_G) (cA : Nat → ClassId) (adr : Nat → Nat) (hJ : smJ 2 adr) (a0 : Nat) (a1 : Nat) (x2 : Int32) (ha0 : smT 2 a0 12) (ha1 : smT 2 a1 20) (M : smM) (M1 : smM) (h : m_X12_appliesOften a0 a1 x2 M = some M1) : Met l yX12_appliesOften wsX12_appliesOften ({ frames := 2, cells := 0, slots := 0, locals := 45 }) (smPc D cA 2 adr M [.ref (adr a0), .ref (adr a1), .int x2]) (smQv D cA 2 adr M1) 0 0 (smA 2 adr) := by
  refine Met.ofW (cc := cX12_appliesOften) (maxL := 4) (ret := none) (by decide) rfl ?_
  intro p e s m args below meth c s₁ B hml hv
  obtain ⟨rfl, hE, hP⟩ := hv
  have hx := B.exec
  have hb := B.bytes
  have hr := B.returns
  have hts := atoms_spec (ws := wsX12_appliesOften) B.pre
  have hown : s.vm.findClass RX12 = some m.cls := findClass_of_methodNamed B.named
  have hlocks := B.notSynchronized
  have hS : va_S (smA 2 adr) s.heap s.heap [] := va_S.rf
  have hP : smP D cA 2 adr M s.heap := hP
  have hl := lv_entry ([.ref (adr a0), .ref (adr a1), .int x2]) (n := 4) (Nat.le_of_ble_eq_true rfl)
  rw [lg_entry_eq]
  generalize (lg_sl ([.ref (adr a0), .ref (adr a1), .int x2]) ++ List.replicate (4 - (lg_sl ([.ref (adr a0), .ref (adr a1), .int x2])).length) Slot.unset).toArray = ls at hl ⊢
  have hl : lv_has ls 4 [(0, .ref (adr a0)), (1, .ref (adr a1)), (2, .int x2)] := hl
  unfold m_X12_appliesOften at h
  have hin12 : ∀ w ∈ u_ws RX12 TX12 54, w ∈ wsX12_appliesOften := by decide +kernel
  refine lv_iconst (v := (0 : Int32)) hx hb dX12_appliesOften_0 (by decide) ?_
  refine lv_istore_n (lv' := [(3, .int (0 : Int32)), (0, .ref (adr a0)), (1, .ref (adr a1)), (2, .int x2)]) hx hb dX12_appliesOften_1 rfl hl (by decide) rfl (fun ls hl => ?_)
  refine sm_lp (b := fun rc q => m_X12_appliesOften_b2 a0 a1 x2 rc q.1 q.2) (P := fun (q : Int32 × smM) H locs ls => smP D cA 2 adr q.2 H ∧ va_S (smA 2 adr) s.heap H locs ∧ lv_has ls 4 [(0, .ref (adr a0)), (1, .ref (adr a1)), (2, .int x2), (3, .int q.1)]) (pc := 2) ?_ _ _ _ _ _ h ⟨hP, hS, lv_sub hl [1, 2, 3, 0] rfl⟩
  intro rc2_2000 ih2_2001 q H locs ls h hI
  obtain ⟨x3_2_1998, M2_1999⟩ := q
  obtain ⟨hP, hS, hl⟩ := hI
  have hP : smP D cA 2 adr M2_1999 H := hP
  have hl : lv_has ls 4 [(0, .ref (adr a0)), (1, .ref (adr a1)), (2, .int x2), (3, .int x3_2_1998)] := hl
  have h : m_X12_appliesOften_b2 a0 a1 x2 rc2_2000 x3_2_1998 M2_1999 = some _ := h
  unfold m_X12_appliesOften_b2 at h
  refine lv_iload_n hx hb dX12_appliesOften_2 rfl (lv_at hl 3 rfl) ?_
  refine lv_bipush (v := (81 : Int32)) hx hb dX12_appliesOften_3 (by decide) ?_
  refine lv_icmp_ge (tgt := 23) hx hb dX12_appliesOften_5 (by decide) (fun c5_2002 => ?_) (fun c5_2002 => ?_)
  · rw [if_pos c5_2002] at h
    refine lv_iload_n hx hb dX12_appliesOften_23 rfl (lv_at hl 2 rfl) ?_
    refine lv_istore_n (lv' := [(3, .int x2), (0, .ref (adr a0)), (1, .ref (adr a1)), (2, .int x2)]) hx hb dX12_appliesOften_24 rfl hl (by decide) rfl (fun ls hl => ?_)
    refine sm_lp (b := fun rc q => m_X12_appliesOften_b25 a0 rc2_2000 rc q.1 q.2) (P := fun (q : Int32 × smM) H locs ls => smP D cA 2 adr q.2 H ∧ va_S (smA 2 adr) s.heap H locs ∧ lv_has ls 4 [(0, .ref (adr a0)), (3, .int q.1)]) (pc := 25) ?_ _ _ _ _ _ h ⟨hP, hS, lv_sub hl [1, 0] rfl⟩
    intro rc25_2005 ih25_2006 q H locs ls h hI
    obtain ⟨x3_25_2003, M25_2004⟩ := q
    obtain ⟨hP, hS, hl⟩ := hI
    have hP : smP D cA 2 adr M25_2004 H := hP
    have hl : lv_has ls 4 [(0, .ref (adr a0)), (3, .int x3_25_2003)] := hl
    have h : m_X12_appliesOften_b25 a0 rc2_2000 rc25_2005 x3_25_2003 M25_2004 = some _ := h
    unfold m_X12_appliesOften_b25 at h
    refine lv_iload_n hx hb dX12_appliesOften_25 rfl (lv_at hl 1 rfl) ?_
    refine lv_if_le (tgt := 55) hx hb dX12_appliesOften_26 (by decide) (fun c26_2007 => ?_) (fun c26_2007 => ?_)
    · rw [if_pos c26_2007] at h
      cases h
      exact sm_vret hx hb hr hlocks hP hS dX12_appliesOften_55
    · rw [if_neg c26_2007] at h
      refine lv_iload_n hx hb dX12_appliesOften_29 rfl (lv_at hl 1 rfl) ?_
      refine lv_iconst (v := (1 : Int32)) hx hb dX12_appliesOften_30 (by decide) ?_
      refine lv_iand hx hb dX12_appliesOften_31 ?_
      refine lv_iconst (v := (1 : Int32)) hx hb dX12_appliesOften_32 (by decide) ?_
      refine lv_icmp_ne (tgt := 44) hx hb dX12_appliesOften_33 (by decide) (fun c33_2008 => ?_) (fun c33_2008 => ?_)
      · rw [if_neg c33_2008] at h
        refine lv_aload_n hx hb dX12_appliesOften_44 rfl (lv_at hl 0 rfl) ?_
        obtain ⟨M45_2010, hc45_2011, h⟩ := sm_bd h
        refine sm_cv (va_runV (As := []) (rest := []) ⟨hx, hb, hml, hown, hts⟩ (k_X12_squares l D cA adr hJ a0 ha0 M25_2004 M45_2010 hc45_2011) (cwV 0 hts gX12_appliesOften_X12_squares rfl rfl rfl (by decide +kernel) ⟨Nat.le_of_ble_eq_true rfl, Nat.le_of_ble_eq_true rfl⟩) ⟨smPc_bl, smRv hE hP ha0 rfl (ci := 12) (q := (RX12, TX12, 54)) rfl, smPc_in [.ref (adr a0)] hE hP⟩ rfl rfl hl.1 rfl (lv_room (Nat.le_of_ble_eq_true rfl)) dX12_appliesOften_45 ⟨Nat.zero_le _, Nat.zero_le _⟩) hS (fun H locs hP hS => ?_)
        refine lv_iload_n hx hb dX12_appliesOften_48 rfl (lv_at hl 1 rfl) ?_
        refine lv_iconst (v := (1 : Int32)) hx hb dX12_appliesOften_49 (by decide) ?_
        refine lv_ishr hx hb dX12_appliesOften_50 ?_
        refine lv_istore_n (lv' := [(3, .int (x3_25_2003 >>> ((1 : Int32) &&& 31))), (0, .ref (adr a0))]) hx hb dX12_appliesOften_51 rfl hl (by decide) rfl (fun ls hl => ?_)
        refine lv_goto (tgt := 25) hx hb dX12_appliesOften_52 (by decide) ?_
        exact ih25_2006 ((x3_25_2003 >>> ((1 : Int32) &&& 31)), M45_2010) _ _ _ h ⟨hP, hS, lv_sub hl [1, 0] rfl⟩
      · rw [if_pos c33_2008] at h
        refine lv_aload_n hx hb dX12_appliesOften_36 rfl (lv_at hl 0 rfl) ?_
        refine lv_aload_n hx hb dX12_appliesOften_37 rfl (lv_at hl 0 rfl) ?_
        refine sm_get (ci := 12) (C := RX12) (T := TX12) (N := 54) (v := .ref (adr (a0 + 18))) hx hb hts hin12 hown hE hP ha0 rfl rfl 22 (by decide) (hts (.fieldLink RX12 78 "OrderMoverModel" "power" "[I") (by decide +kernel)) (fun _ h9 => h9) rfl dX12_appliesOften_38 ?_
        obtain ⟨M41_2013, hc41_2014, h⟩ := sm_bd h
        refine sm_cv (va_runV (As := [.ref (adr (a0 + 18))]) (rest := []) ⟨hx, hb, hml, hown, hts⟩ (k_X12_applies l D cA adr hJ a0 (a0 + 18) ha0 (t12_22 ha0) M25_2004 M41_2013 hc41_2014) (cwV 1 hts gX12_appliesOften_X12_applies rfl rfl rfl (by decide +kernel) ⟨Nat.le_of_ble_eq_true rfl, Nat.le_of_ble_eq_true rfl⟩) ⟨smPc_bl, smRv hE hP ha0 rfl (ci := 12) (q := (RX12, TX12, 54)) rfl, smPc_in [.ref (adr a0), .ref (adr (a0 + 18))] hE hP⟩ rfl rfl hl.1 rfl (lv_room (Nat.le_of_ble_eq_true rfl)) dX12_appliesOften_41 ⟨Nat.zero_le _, Nat.zero_le _⟩) hS (fun H locs hP hS => ?_)
        refine lv_aload_n hx hb dX12_appliesOften_44 rfl (lv_at hl 0 rfl) ?_
        obtain ⟨M45_2016, hc45_2017, h⟩ := sm_bd h
        refine sm_cv (va_runV (As := []) (rest := []) ⟨hx, hb, hml, hown, hts⟩ (k_X12_squares l D cA adr hJ a0 ha0 M41_2013 M45_2016 hc45_2017) (cwV 0 hts gX12_appliesOften_X12_squares rfl rfl rfl (by decide +kernel) ⟨Nat.le_of_ble_eq_true rfl, Nat.le_of_ble_eq_true rfl⟩) ⟨smPc_bl, smRv hE hP ha0 rfl (ci := 12) (q := (RX12, TX12, 54)) rfl, smPc_in [.ref (adr a0)] hE hP⟩ rfl rfl hl.1 rfl (lv_room (Nat.le_of_ble_eq_true rfl)) dX12_appliesOften_45 ⟨Nat.zero_le _, Nat.zero_le _⟩) hS (fun H locs hP hS => ?_)
        refine lv_iload_n hx hb dX12_appliesOften_48 rfl (lv_at hl 1 rfl) ?_
        refine lv_iconst (v := (1 : Int32)) hx hb dX12_appliesOften_49 (by decide) ?_
        refine lv_ishr hx hb dX12_appliesOften_50 ?_
        refine lv_istore_n (lv' := [(3, .int (x3_25_2003 >>> ((1 : Int32) &&& 31))), (0, .ref (adr a0))]) hx hb dX12_appliesOften_51 rfl hl (by decide) rfl (fun ls hl => ?_)
        refine lv_goto (tgt := 25) hx hb dX12_appliesOften_52 (by decide) ?_
        exact ih25_2006 ((x3_25_2003 >>> ((1 : Int32) &&& 31)), M45_2016) _ _ _ h ⟨hP, hS, lv_sub hl [1, 0] rfl⟩
  · rw [if_neg c5_2002] at h
    refine lv_aload_n hx hb dX12_appliesOften_8 rfl (lv_at hl 0 rfl) ?_
    refine sm_get (ci := 12) (C := RX12) (T := TX12) (N := 54) (v := .ref (adr (a0 + 18))) hx hb hts hin12 hown hE hP ha0 rfl rfl 22 (by decide) (hts (.fieldLink RX12 78 "OrderMoverModel" "power" "[I") (by decide +kernel)) (fun _ h9 => h9) rfl dX12_appliesOften_9 ?_
    refine lv_iload_n hx hb dX12_appliesOften_12 rfl (lv_at hl 3 rfl) ?_
    refine lv_aload_n hx hb dX12_appliesOften_13 rfl (lv_at hl 1 rfl) ?_
    refine lv_iload_n hx hb dX12_appliesOften_14 rfl (lv_at hl 3 rfl) ?_
    obtain ⟨c15_2018, h⟩ := sm_ck h
    refine sm_iald hx hb hE hP ha1 c15_2018 dX12_appliesOften_15 ?_
    obtain ⟨c16_2019, h⟩ := sm_ck h
    refine sm_iast hx hb hE hJ hP hS (t12_22 ha0) c16_2019 dX12_appliesOften_16 (fun H locs hP hS => ?_)
    obtain ⟨M16_2020, hM, h⟩ := sm_lt h
    rw [← hM] at hP; clear hM
    refine lv_iinc (v := (x3_2_1998 + (1 : Int32))) (lv' := [(3, .int (x3_2_1998 + (1 : Int32))), (0, .ref (adr a0)), (1, .ref (adr a1)), (2, .int x2)]) hx hb dX12_appliesOften_17 hl (k := 3) rfl (congrArg (fun z => x3_2_1998 + z) (by decide)) (by decide) rfl (fun ls hl => ?_)
    refine lv_goto (tgt := 2) hx hb dX12_appliesOften_20 (by decide) ?_
    exact ih2_2001 ((x3_2_1998 + (1 : Int32)), M16_2020) _ _ _ h ⟨hP, hS, lv_sub hl [1, 2, 3, 0] rfl⟩
set_option maxHeartbeats 4000000 in
set_option maxRecDepth 100000 in
theorem k_X12_isOrder (l : Launch) (D : va_G) (cA : Nat → ClassId) (adr : Nat → Nat) (hJ : smJ 2 adr) (a0 : Nat) (x1 : Int32) (ha0 : smT 2 a0 12) (M : smM) (v1 : Int32) (h : m_X12_isOrder a0 x1 M = some v1) : Met l yX12_isOrder wsX12_isOrder ({ frames := 1, cells := 0, slots := 0, locals := 25 }) (smPc D cA 2 adr M [.ref (adr a0), .int x1]) (smQi D cA 2 adr M v1) 0 0 (smA 2 adr) := by
  refine Met.ofW (cc := cX12_isOrder) (maxL := 2) (ret := (some .boolean)) (by decide) rfl ?_
  intro p e s m args below meth c s₁ B hml hv
  obtain ⟨rfl, hE, hP⟩ := hv
  have hx := B.exec
  have hb := B.bytes
  have hr := B.returns
  have hts := atoms_spec (ws := wsX12_isOrder) B.pre
  have hown : s.vm.findClass RX12 = some m.cls := findClass_of_methodNamed B.named
  have hlocks := B.notSynchronized
  have hS : va_S (smA 2 adr) s.heap s.heap [] := va_S.rf
  have hP : smP D cA 2 adr M s.heap := hP
  have hl := lv_entry ([.ref (adr a0), .int x1]) (n := 2) (Nat.le_of_ble_eq_true rfl)
  rw [lg_entry_eq]
  generalize (lg_sl ([.ref (adr a0), .int x1]) ++ List.replicate (2 - (lg_sl ([.ref (adr a0), .int x1])).length) Slot.unset).toArray = ls at hl ⊢
  have hl : lv_has ls 2 [(0, .ref (adr a0)), (1, .int x1)] := hl
  unfold m_X12_isOrder at h
  refine lv_iload_n hx hb dX12_isOrder_0 rfl (lv_at hl 1 rfl) ?_
  refine lv_i2l hx hb dX12_isOrder_1 rfl ?_
  refine lv_lconst (v := (0 : Int64)) hx hb dX12_isOrder_2 (by decide) ?_
  refine lv_ldc2 (v := (4 : Int64)) hx hb hown (hts (.constantLong RX12 260 (4)) (by decide +kernel)) dX12_isOrder_3 ?_
  obtain ⟨v6_2021, hc6_2023, h⟩ := sm_bd h
  refine sm_ci (va_runS (As := [.long ((x1).toInt64), .long (0 : Int64), .long (4 : Int64)]) (rest := []) ⟨hx, hb, hml, hown, hts⟩ (k_X12_in l D cA adr hJ ((x1).toInt64) (0 : Int64) (4 : Int64)  M v6_2021 hc6_2023) (va_cwS 3 hts gX12_isOrder_X12_in rfl rfl rfl (by decide +kernel) ⟨Nat.le_of_ble_eq_true rfl, Nat.le_of_ble_eq_true rfl⟩) ⟨smPc_bl, smPc_in [.long ((x1).toInt64), .long (0 : Int64), .long (4 : Int64)] hE hP⟩ rfl rfl hl.1 rfl (lv_room (Nat.le_of_ble_eq_true rfl)) dX12_isOrder_6 ⟨Nat.zero_le _, Nat.zero_le _⟩) hS (fun H locs hP hS => ?_)
  cases h
  exact sm_zret (by first | rfl | decide) hx hb hr hlocks hP hS dX12_isOrder_9
set_option maxHeartbeats 4000000 in
set_option maxRecDepth 100000 in
theorem k_X12_highest (l : Launch) (D : va_G) (cA : Nat → ClassId) (adr : Nat → Nat) (hJ : smJ 2 adr) (a0 : Nat) (a1 : Nat) (x2 : Int32) (ha0 : smT 2 a0 20) (ha1 : smT 2 a1 20) (M : smM) (v1 : Int32) (h : m_X12_highest a0 a1 x2 M = some v1) : Met l yX12_highest wsX12_highest ({ frames := 0, cells := 0, slots := 0, locals := 0 }) (smPc D cA 2 adr M [.ref (adr a0), .ref (adr a1), .int x2]) (smQi D cA 2 adr M v1) 0 0 (smA 2 adr) := by
  refine Met.ofW (cc := cX12_highest) (maxL := 5) (ret := (some .int)) (by decide) rfl ?_
  intro p e s m args below meth c s₁ B hml hv
  obtain ⟨rfl, hE, hP⟩ := hv
  have hx := B.exec
  have hb := B.bytes
  have hr := B.returns
  have hts := atoms_spec (ws := wsX12_highest) B.pre
  have hown : s.vm.findClass RX12 = some m.cls := findClass_of_methodNamed B.named
  have hlocks := B.notSynchronized
  have hS : va_S (smA 2 adr) s.heap s.heap [] := va_S.rf
  have hP : smP D cA 2 adr M s.heap := hP
  have hl := lv_entry ([.ref (adr a0), .ref (adr a1), .int x2]) (n := 5) (Nat.le_of_ble_eq_true rfl)
  rw [lg_entry_eq]
  generalize (lg_sl ([.ref (adr a0), .ref (adr a1), .int x2]) ++ List.replicate (5 - (lg_sl ([.ref (adr a0), .ref (adr a1), .int x2])).length) Slot.unset).toArray = ls at hl ⊢
  have hl : lv_has ls 5 [(0, .ref (adr a0)), (1, .ref (adr a1)), (2, .int x2)] := hl
  unfold m_X12_highest at h
  refine lv_iconst (v := (0 : Int32)) hx hb dX12_highest_0 (by decide) ?_
  refine lv_istore_n (lv' := [(3, .int (0 : Int32)), (0, .ref (adr a0)), (1, .ref (adr a1)), (2, .int x2)]) hx hb dX12_highest_1 rfl hl (by decide) rfl (fun ls hl => ?_)
  refine lv_iconst (v := (0 : Int32)) hx hb dX12_highest_2 (by decide) ?_
  refine lv_istore (lv' := [(4, .int (0 : Int32)), (3, .int (0 : Int32)), (0, .ref (adr a0)), (1, .ref (adr a1)), (2, .int x2)]) hx hb dX12_highest_3 hl (by decide) rfl (fun ls hl => ?_)
  refine sm_lp (b := fun rc q => m_X12_highest_b5 a0 a1 x2 M rc q.1 q.2) (P := fun (q : Int32 × Int32) H locs ls => smP D cA 2 adr M H ∧ va_S (smA 2 adr) s.heap H locs ∧ lv_has ls 5 [(0, .ref (adr a0)), (1, .ref (adr a1)), (2, .int x2), (3, .int q.1), (4, .int q.2)]) (pc := 5) ?_ _ _ _ _ _ h ⟨hP, hS, lv_sub hl [2, 3, 4, 1, 0] rfl⟩
  intro rc5_2026 ih5_2027 q H locs ls h hI
  obtain ⟨x3_5_2024, x4_5_2025⟩ := q
  obtain ⟨hP, hS, hl⟩ := hI
  have hP : smP D cA 2 adr M H := hP
  have hl : lv_has ls 5 [(0, .ref (adr a0)), (1, .ref (adr a1)), (2, .int x2), (3, .int x3_5_2024), (4, .int x4_5_2025)] := hl
  have h : m_X12_highest_b5 a0 a1 x2 M rc5_2026 x3_5_2024 x4_5_2025 = some _ := h
  unfold m_X12_highest_b5 at h
  refine lv_iload hx hb dX12_highest_5 (lv_at hl 4 rfl) ?_
  refine lv_iload_n hx hb dX12_highest_7 rfl (lv_at hl 2 rfl) ?_
  refine lv_icmp_ge (tgt := 44) hx hb dX12_highest_8 (by decide) (fun c8_2028 => ?_) (fun c8_2028 => ?_)
  · rw [if_pos c8_2028] at h
    refine lv_iload_n hx hb dX12_highest_44 rfl (lv_at hl 3 rfl) ?_
    cases h
    exact sm_iret hx hb hr hlocks hP hS dX12_highest_45
  · rw [if_neg c8_2028] at h
    refine lv_aload_n hx hb dX12_highest_11 rfl (lv_at hl 0 rfl) ?_
    refine lv_iload hx hb dX12_highest_12 (lv_at hl 4 rfl) ?_
    obtain ⟨c14_2029, h⟩ := sm_ck h
    refine sm_iald hx hb hE hP ha0 c14_2029 dX12_highest_14 ?_
    refine lv_aload_n hx hb dX12_highest_15 rfl (lv_at hl 1 rfl) ?_
    refine lv_iload hx hb dX12_highest_16 (lv_at hl 4 rfl) ?_
    obtain ⟨c18_2030, h⟩ := sm_ck h
    refine sm_iald hx hb hE hP ha1 c18_2030 dX12_highest_18 ?_
    refine lv_iadd hx hb dX12_highest_19 ?_
    refine lv_iload_n hx hb dX12_highest_20 rfl (lv_at hl 3 rfl) ?_
    refine lv_icmp_le (tgt := 36) hx hb dX12_highest_21 (by decide) (fun c21_2031 => ?_) (fun c21_2031 => ?_)
    · rw [if_pos c21_2031] at h
      refine lv_iload_n hx hb dX12_highest_36 rfl (lv_at hl 3 rfl) ?_
      refine lv_istore_n (lv' := [(3, .int x3_5_2024), (0, .ref (adr a0)), (1, .ref (adr a1)), (2, .int x2), (4, .int x4_5_2025)]) hx hb dX12_highest_37 rfl hl (by decide) rfl (fun ls hl => ?_)
      refine lv_iinc (v := (x4_5_2025 + (1 : Int32))) (lv' := [(4, .int (x4_5_2025 + (1 : Int32))), (3, .int x3_5_2024), (0, .ref (adr a0)), (1, .ref (adr a1)), (2, .int x2)]) hx hb dX12_highest_38 hl (k := 4) rfl (congrArg (fun z => x4_5_2025 + z) (by decide)) (by decide) rfl (fun ls hl => ?_)
      refine lv_goto (tgt := 5) hx hb dX12_highest_41 (by decide) ?_
      exact ih5_2027 (x3_5_2024, (x4_5_2025 + (1 : Int32))) _ _ _ h ⟨hP, hS, lv_sub hl [2, 3, 4, 1, 0] rfl⟩
    · rw [if_neg c21_2031] at h
      refine lv_aload_n hx hb dX12_highest_24 rfl (lv_at hl 0 rfl) ?_
      refine lv_iload hx hb dX12_highest_25 (lv_at hl 4 rfl) ?_
      obtain ⟨c27_2032, h⟩ := sm_ck h
      refine sm_iald hx hb hE hP ha0 c27_2032 dX12_highest_27 ?_
      refine lv_aload_n hx hb dX12_highest_28 rfl (lv_at hl 1 rfl) ?_
      refine lv_iload hx hb dX12_highest_29 (lv_at hl 4 rfl) ?_
      obtain ⟨c31_2033, h⟩ := sm_ck h
      refine sm_iald hx hb hE hP ha1 c31_2033 dX12_highest_31 ?_
      refine lv_iadd hx hb dX12_highest_32 ?_
      refine lv_goto (tgt := 37) hx hb dX12_highest_33 (by decide) ?_
      refine lv_istore_n (lv' := [(3, .int ((M a0 (x4_5_2025).toNatClampNeg) + (M a1 (x4_5_2025).toNatClampNeg))), (0, .ref (adr a0)), (1, .ref (adr a1)), (2, .int x2), (4, .int x4_5_2025)]) hx hb dX12_highest_37 rfl hl (by decide) rfl (fun ls hl => ?_)
      refine lv_iinc (v := (x4_5_2025 + (1 : Int32))) (lv' := [(4, .int (x4_5_2025 + (1 : Int32))), (3, .int ((M a0 (x4_5_2025).toNatClampNeg) + (M a1 (x4_5_2025).toNatClampNeg))), (0, .ref (adr a0)), (1, .ref (adr a1)), (2, .int x2)]) hx hb dX12_highest_38 hl (k := 4) rfl (congrArg (fun z => x4_5_2025 + z) (by decide)) (by decide) rfl (fun ls hl => ?_)
      refine lv_goto (tgt := 5) hx hb dX12_highest_41 (by decide) ?_
      exact ih5_2027 (((M a0 (x4_5_2025).toNatClampNeg) + (M a1 (x4_5_2025).toNatClampNeg)), (x4_5_2025 + (1 : Int32))) _ _ _ h ⟨hP, hS, lv_sub hl [2, 3, 4, 1, 0] rfl⟩
set_option maxHeartbeats 4000000 in
set_option maxRecDepth 100000 in
theorem k_X12_formAt (l : Launch) (D : va_G) (cA : Nat → ClassId) (adr : Nat → Nat) (hJ : smJ 2 adr) (a0 : Nat) (x1 : Int32) (x2 : Int32) (ha0 : smT 2 a0 12) (M : smM) (v1 : Int32) (h : m_X12_formAt a0 x1 x2 M = some v1) : Met l yX12_formAt wsX12_formAt ({ frames := 0, cells := 0, slots := 0, locals := 0 }) (smPc D cA 2 adr M [.ref (adr a0), .int x1, .int x2]) (smQi D cA 2 adr M v1) 0 0 (smA 2 adr) := by
  refine Met.ofW (cc := cX12_formAt) (maxL := 3) (ret := (some .int)) (by decide) rfl ?_
  intro p e s m args below meth c s₁ B hml hv
  obtain ⟨rfl, hE, hP⟩ := hv
  have hx := B.exec
  have hb := B.bytes
  have hr := B.returns
  have hts := atoms_spec (ws := wsX12_formAt) B.pre
  have hown : s.vm.findClass RX12 = some m.cls := findClass_of_methodNamed B.named
  have hlocks := B.notSynchronized
  have hS : va_S (smA 2 adr) s.heap s.heap [] := va_S.rf
  have hP : smP D cA 2 adr M s.heap := hP
  have hl := lv_entry ([.ref (adr a0), .int x1, .int x2]) (n := 3) (Nat.le_of_ble_eq_true rfl)
  rw [lg_entry_eq]
  generalize (lg_sl ([.ref (adr a0), .int x1, .int x2]) ++ List.replicate (3 - (lg_sl ([.ref (adr a0), .int x1, .int x2])).length) Slot.unset).toArray = ls at hl ⊢
  have hl : lv_has ls 3 [(0, .ref (adr a0)), (1, .int x1), (2, .int x2)] := hl
  unfold m_X12_formAt at h
  refine lv_bipush (v := (9 : Int32)) hx hb dX12_formAt_0 (by decide) ?_
  refine lv_bipush (v := (7 : Int32)) hx hb dX12_formAt_2 (by decide) ?_
  refine lv_iload_n hx hb dX12_formAt_4 rfl (lv_at hl 1 rfl) ?_
  refine lv_imul hx hb dX12_formAt_5 ?_
  refine lv_iload_n hx hb dX12_formAt_6 rfl (lv_at hl 2 rfl) ?_
  refine lv_iadd hx hb dX12_formAt_7 ?_
  refine lv_imul hx hb dX12_formAt_8 ?_
  cases h
  exact sm_iret hx hb hr hlocks hP hS dX12_formAt_9
set_option maxHeartbeats 4000000 in
set_option maxRecDepth 100000 in
theorem k_X12_mod (l : Launch) (D : va_G) (cA : Nat → ClassId) (adr : Nat → Nat) (hJ : smJ 2 adr) (a0 : Nat) (z1 : Int64) (ha0 : smT 2 a0 12) (M : smM) (v1 : Int32) (h : m_X12_mod a0 z1 M = some v1) : Met l yX12_mod wsX12_mod ({ frames := 0, cells := 0, slots := 0, locals := 0 }) (smPc D cA 2 adr M [.ref (adr a0), .long z1]) (smQi D cA 2 adr M v1) 0 0 (smA 2 adr) := by
  refine Met.ofW (cc := cX12_mod) (maxL := 5) (ret := (some .int)) (by decide) rfl ?_
  intro p e s m args below meth c s₁ B hml hv
  obtain ⟨rfl, hE, hP⟩ := hv
  have hx := B.exec
  have hb := B.bytes
  have hr := B.returns
  have hts := atoms_spec (ws := wsX12_mod) B.pre
  have hown : s.vm.findClass RX12 = some m.cls := findClass_of_methodNamed B.named
  have hlocks := B.notSynchronized
  have hS : va_S (smA 2 adr) s.heap s.heap [] := va_S.rf
  have hP : smP D cA 2 adr M s.heap := hP
  have hl := lv_entry ([.ref (adr a0), .long z1]) (n := 5) (Nat.le_of_ble_eq_true rfl)
  rw [lg_entry_eq]
  generalize (lg_sl ([.ref (adr a0), .long z1]) ++ List.replicate (5 - (lg_sl ([.ref (adr a0), .long z1])).length) Slot.unset).toArray = ls at hl ⊢
  have hl : lv_has ls 5 [(0, .ref (adr a0)), (1, .long z1)] := hl
  unfold m_X12_mod at h
  have hin12 : ∀ w ∈ u_ws RX12 TX12 54, w ∈ wsX12_mod := by decide +kernel
  refine lv_lload_n hx hb dX12_mod_0 rfl (lv_at hl 1 rfl) ?_
  refine lv_aload_n hx hb dX12_mod_1 rfl (lv_at hl 0 rfl) ?_
  refine sm_get (ci := 12) (C := RX12) (T := TX12) (N := 54) (v := .int (M a0 0)) hx hb hts hin12 hown hE hP ha0 rfl rfl 0 (by decide) (hts (.fieldLink RX12 7 "OrderMoverModel" "p" "I") (by decide +kernel)) (fun _ h9 => h9) rfl dX12_mod_2 ?_
  refine lv_i2l hx hb dX12_mod_5 rfl ?_
  obtain ⟨c6_2034, h⟩ := sm_ck h
  refine lv_lrem hx hb dX12_mod_6 c6_2034 ?_
  refine lv_lstore_n (lv' := [(3, .long (z1 - z1 / ((M a0 0)).toInt64 * ((M a0 0)).toInt64)), (0, .ref (adr a0)), (1, .long z1)]) hx hb dX12_mod_7 rfl hl (by decide) rfl (fun ls hl => ?_)
  refine lv_lload_n hx hb dX12_mod_8 rfl (lv_at hl 0 rfl) ?_
  refine lv_lconst (v := (0 : Int64)) hx hb dX12_mod_9 (by decide) ?_
  refine W.lcmp hx hb dX12_mod_10 ?_
  refine lv_if_ge (tgt := 24) hx hb dX12_mod_11 (by decide) (fun c11_2035 => ?_) (fun c11_2035 => ?_)
  · rw [if_pos c11_2035] at h
    refine lv_lload_n hx hb dX12_mod_24 rfl (lv_at hl 0 rfl) ?_
    refine lv_l2i hx hb dX12_mod_25 rfl ?_
    cases h
    exact sm_iret hx hb hr hlocks hP hS dX12_mod_26
  · rw [if_neg c11_2035] at h
    refine lv_lload_n hx hb dX12_mod_14 rfl (lv_at hl 0 rfl) ?_
    refine lv_aload_n hx hb dX12_mod_15 rfl (lv_at hl 1 rfl) ?_
    refine sm_get (ci := 12) (C := RX12) (T := TX12) (N := 54) (v := .int (M a0 0)) hx hb hts hin12 hown hE hP ha0 rfl rfl 0 (by decide) (hts (.fieldLink RX12 7 "OrderMoverModel" "p" "I") (by decide +kernel)) (fun _ h9 => h9) rfl dX12_mod_16 ?_
    refine lv_i2l hx hb dX12_mod_19 rfl ?_
    refine lv_ladd hx hb dX12_mod_20 ?_
    refine lv_goto (tgt := 25) hx hb dX12_mod_21 (by decide) ?_
    refine lv_l2i hx hb dX12_mod_25 rfl ?_
    cases h
    exact sm_iret hx hb hr hlocks hP hS dX12_mod_26
set_option maxHeartbeats 4000000 in
set_option maxRecDepth 100000 in
theorem k_X12_laysForm (l : Launch) (D : va_G) (cA : Nat → ClassId) (adr : Nat → Nat) (hJ : smJ 2 adr) (a0 : Nat) (x1 : Int32) (x2 : Int32) (ha0 : smT 2 a0 12) (M : smM) (M1 : smM) (h : m_X12_laysForm a0 x1 x2 M = some M1) : Met l yX12_laysForm wsX12_laysForm ({ frames := 1, cells := 0, slots := 0, locals := 24 }) (smPc D cA 2 adr M [.ref (adr a0), .int x1, .int x2]) (smQv D cA 2 adr M1) 0 0 (smA 2 adr) := by
  refine Met.ofW (cc := cX12_laysForm) (maxL := 11) (ret := none) (by decide) rfl ?_
  intro p e s m args below meth c s₁ B hml hv
  obtain ⟨rfl, hE, hP⟩ := hv
  have hx := B.exec
  have hb := B.bytes
  have hr := B.returns
  have hts := atoms_spec (ws := wsX12_laysForm) B.pre
  have hown : s.vm.findClass RX12 = some m.cls := findClass_of_methodNamed B.named
  have hlocks := B.notSynchronized
  have hS : va_S (smA 2 adr) s.heap s.heap [] := va_S.rf
  have hP : smP D cA 2 adr M s.heap := hP
  have hl := lv_entry ([.ref (adr a0), .int x1, .int x2]) (n := 11) (Nat.le_of_ble_eq_true rfl)
  rw [lg_entry_eq]
  generalize (lg_sl ([.ref (adr a0), .int x1, .int x2]) ++ List.replicate (11 - (lg_sl ([.ref (adr a0), .int x1, .int x2])).length) Slot.unset).toArray = ls at hl ⊢
  have hl : lv_has ls 11 [(0, .ref (adr a0)), (1, .int x1), (2, .int x2)] := hl
  unfold m_X12_laysForm at h
  have hin12 : ∀ w ∈ u_ws RX12 TX12 54, w ∈ wsX12_laysForm := by decide +kernel
  refine lv_aload_n hx hb dX12_laysForm_0 rfl (lv_at hl 0 rfl) ?_
  refine lv_iload_n hx hb dX12_laysForm_1 rfl (lv_at hl 1 rfl) ?_
  refine lv_iload_n hx hb dX12_laysForm_2 rfl (lv_at hl 2 rfl) ?_
  obtain ⟨v3_2036, hc3_2038, h⟩ := sm_bd h
  refine sm_ci (va_runV (As := [.int x1, .int x2]) (rest := []) ⟨hx, hb, hml, hown, hts⟩ (k_X12_formAt l D cA adr hJ a0 x1 x2 ha0 M v3_2036 hc3_2038) (cwV 2 hts gX12_laysForm_X12_formAt rfl rfl rfl (by decide +kernel) ⟨Nat.le_of_ble_eq_true rfl, Nat.le_of_ble_eq_true rfl⟩) ⟨smPc_bl, smRv hE hP ha0 rfl (ci := 12) (q := (RX12, TX12, 54)) rfl, smPc_in [.ref (adr a0), .int x1, .int x2] hE hP⟩ rfl rfl hl.1 rfl (lv_room (Nat.le_of_ble_eq_true rfl)) dX12_laysForm_3 ⟨Nat.zero_le _, Nat.zero_le _⟩) hS (fun H locs hP hS => ?_)
  refine lv_istore_n (lv' := [(3, .int v3_2036), (0, .ref (adr a0)), (1, .int x1), (2, .int x2)]) hx hb dX12_laysForm_6 rfl hl (by decide) rfl (fun ls hl => ?_)
  refine lv_iconst (v := (0 : Int32)) hx hb dX12_laysForm_7 (by decide) ?_
  refine lv_istore (lv' := [(4, .int (0 : Int32)), (3, .int v3_2036), (0, .ref (adr a0)), (1, .int x1), (2, .int x2)]) hx hb dX12_laysForm_8 hl (by decide) rfl (fun ls hl => ?_)
  refine sm_lp (b := fun rc q => m_X12_laysForm_b10 a0 x1 x2 v3_2036 rc q.1 q.2) (P := fun (q : Int32 × smM) H locs ls => smP D cA 2 adr q.2 H ∧ va_S (smA 2 adr) s.heap H locs ∧ lv_has ls 11 [(0, .ref (adr a0)), (1, .int x1), (2, .int x2), (3, .int v3_2036), (4, .int q.1)]) (pc := 10) ?_ _ _ _ _ _ h ⟨hP, hS, lv_sub hl [2, 3, 4, 1, 0] rfl⟩
  intro rc10_2041 ih10_2042 q H locs ls h hI
  obtain ⟨x4_10_2039, M10_2040⟩ := q
  obtain ⟨hP, hS, hl⟩ := hI
  have hP : smP D cA 2 adr M10_2040 H := hP
  have hl : lv_has ls 11 [(0, .ref (adr a0)), (1, .int x1), (2, .int x2), (3, .int v3_2036), (4, .int x4_10_2039)] := hl
  have h : m_X12_laysForm_b10 a0 x1 x2 v3_2036 rc10_2041 x4_10_2039 M10_2040 = some _ := h
  unfold m_X12_laysForm_b10 at h
  refine lv_iload hx hb dX12_laysForm_10 (lv_at hl 4 rfl) ?_
  refine lv_bipush (v := (9 : Int32)) hx hb dX12_laysForm_12 (by decide) ?_
  refine lv_icmp_ge (tgt := 33) hx hb dX12_laysForm_14 (by decide) (fun c14_2043 => ?_) (fun c14_2043 => ?_)
  · rw [if_pos c14_2043] at h
    refine lv_iload_n hx hb dX12_laysForm_33 rfl (lv_at hl 1 rfl) ?_
    refine lv_aload_n hx hb dX12_laysForm_34 rfl (lv_at hl 0 rfl) ?_
    refine sm_get (ci := 12) (C := RX12) (T := TX12) (N := 54) (v := .int (M10_2040 a0 1)) hx hb hts hin12 hown hE hP ha0 rfl rfl 1 (by decide) (hts (.fieldLink RX12 13 "OrderMoverModel" "powerA" "I") (by decide +kernel)) (fun _ h9 => h9) rfl dX12_laysForm_35 ?_
    refine sm_jn (x := M1) (T := fun (q : Unit) => m_X12_laysForm_j66 a0 x1 x2 v3_2036 M10_2040 rc10_2041) (P := fun (q : Unit) H locs ls => smP D cA 2 adr M10_2040 H ∧ va_S (smA 2 adr) s.heap H locs ∧ lv_has ls 11 [(0, .ref (adr a0)), (1, .int x1), (2, .int x2), (3, .int v3_2036)]) (st := fun (q : Unit) => []) (pc := 66) ?_ (fun J66_2044 => ?_)
    · intro q H locs ls h hI
      obtain ⟨hP, hS, hl⟩ := hI
      have hP : smP D cA 2 adr M10_2040 H := hP
      have hl : lv_has ls 11 [(0, .ref (adr a0)), (1, .int x1), (2, .int x2), (3, .int v3_2036)] := hl
      have h : m_X12_laysForm_j66 a0 x1 x2 v3_2036 M10_2040 rc10_2041 = some _ := h
      unfold m_X12_laysForm_j66 at h
      refine W.eq (g2 := F0 m 66 ls []) rfl ?_
      refine lv_iload_n hx hb dX12_laysForm_66 rfl (lv_at hl 1 rfl) ?_
      refine lv_aload_n hx hb dX12_laysForm_67 rfl (lv_at hl 0 rfl) ?_
      refine sm_get (ci := 12) (C := RX12) (T := TX12) (N := 54) (v := .int (M10_2040 a0 1)) hx hb hts hin12 hown hE hP ha0 rfl rfl 1 (by decide) (hts (.fieldLink RX12 13 "OrderMoverModel" "powerA" "I") (by decide +kernel)) (fun _ h9 => h9) rfl dX12_laysForm_68 ?_
      refine sm_jn (x := M1) (T := fun (q : Int32) => m_X12_laysForm_j79 a0 x1 x2 v3_2036 M10_2040 rc10_2041 q) (P := fun (q : Int32) H locs ls => smP D cA 2 adr M10_2040 H ∧ va_S (smA 2 adr) s.heap H locs ∧ lv_has ls 11 [(0, .ref (adr a0)), (1, .int x1), (2, .int x2), (3, .int v3_2036)]) (st := fun (q : Int32) => [.int q]) (pc := 79) ?_ (fun J79_2046 => ?_)
      · intro q H locs ls h hI
        obtain ⟨s0_79_2045, hq⟩ : ∃ y, y = q := ⟨_, rfl⟩; subst hq
        obtain ⟨hP, hS, hl⟩ := hI
        have hP : smP D cA 2 adr M10_2040 H := hP
        have hl : lv_has ls 11 [(0, .ref (adr a0)), (1, .int x1), (2, .int x2), (3, .int v3_2036)] := hl
        have h : m_X12_laysForm_j79 a0 x1 x2 v3_2036 M10_2040 rc10_2041 s0_79_2045 = some _ := h
        unfold m_X12_laysForm_j79 at h
        refine W.eq (g2 := F0 m 79 ls [.int s0_79_2045]) rfl ?_
        refine lv_istore (lv' := [(4, .int s0_79_2045), (0, .ref (adr a0)), (1, .int x1), (2, .int x2), (3, .int v3_2036)]) hx hb dX12_laysForm_79 hl (by decide) rfl (fun ls hl => ?_)
        refine lv_iload hx hb dX12_laysForm_81 (lv_at hl 0 rfl) ?_
        refine sm_jn (x := M1) (T := fun (q : Int32) => m_X12_laysForm_j97 a0 x1 x2 v3_2036 s0_79_2045 M10_2040 rc10_2041 q) (P := fun (q : Int32) H locs ls => smP D cA 2 adr M10_2040 H ∧ va_S (smA 2 adr) s.heap H locs ∧ lv_has ls 11 [(0, .ref (adr a0)), (1, .int x1), (2, .int x2), (3, .int v3_2036), (4, .int s0_79_2045)]) (st := fun (q : Int32) => [.int q]) (pc := 97) ?_ (fun J97_2048 => ?_)
        · intro q H locs ls h hI
          obtain ⟨s0_97_2047, hq⟩ : ∃ y, y = q := ⟨_, rfl⟩; subst hq
          obtain ⟨hP, hS, hl⟩ := hI
          have hP : smP D cA 2 adr M10_2040 H := hP
          have hl : lv_has ls 11 [(0, .ref (adr a0)), (1, .int x1), (2, .int x2), (3, .int v3_2036), (4, .int s0_79_2045)] := hl
          have h : m_X12_laysForm_j97 a0 x1 x2 v3_2036 s0_79_2045 M10_2040 rc10_2041 s0_97_2047 = some _ := h
          unfold m_X12_laysForm_j97 at h
          refine W.eq (g2 := F0 m 97 ls [.int s0_97_2047]) rfl ?_
          refine lv_istore (lv' := [(5, .int s0_97_2047), (0, .ref (adr a0)), (1, .int x1), (2, .int x2), (3, .int v3_2036), (4, .int s0_79_2045)]) hx hb dX12_laysForm_97 hl (by decide) rfl (fun ls hl => ?_)
          refine lv_iconst (v := (0 : Int32)) hx hb dX12_laysForm_99 (by decide) ?_
          refine lv_istore (lv' := [(6, .int (0 : Int32)), (5, .int s0_97_2047), (0, .ref (adr a0)), (1, .int x1), (2, .int x2), (3, .int v3_2036), (4, .int s0_79_2045)]) hx hb dX12_laysForm_100 hl (by decide) rfl (fun ls hl => ?_)
          refine sm_lp (b := fun rc q => m_X12_laysForm_b102 a0 x1 x2 v3_2036 s0_79_2045 s0_97_2047 rc10_2041 rc q.1 q.2) (P := fun (q : Int32 × smM) H locs ls => smP D cA 2 adr q.2 H ∧ va_S (smA 2 adr) s.heap H locs ∧ lv_has ls 11 [(0, .ref (adr a0)), (1, .int x1), (2, .int x2), (3, .int v3_2036), (4, .int s0_79_2045), (5, .int s0_97_2047), (6, .int q.1)]) (pc := 102) ?_ _ _ _ _ _ h ⟨hP, hS, lv_sub hl [2, 3, 4, 5, 6, 1, 0] rfl⟩
          intro rc102_2051 ih102_2052 q H locs ls h hI
          obtain ⟨x6_102_2049, M102_2050⟩ := q
          obtain ⟨hP, hS, hl⟩ := hI
          have hP : smP D cA 2 adr M102_2050 H := hP
          have hl : lv_has ls 11 [(0, .ref (adr a0)), (1, .int x1), (2, .int x2), (3, .int v3_2036), (4, .int s0_79_2045), (5, .int s0_97_2047), (6, .int x6_102_2049)] := hl
          have h : m_X12_laysForm_b102 a0 x1 x2 v3_2036 s0_79_2045 s0_97_2047 rc10_2041 rc102_2051 x6_102_2049 M102_2050 = some _ := h
          unfold m_X12_laysForm_b102 at h
          refine lv_iload hx hb dX12_laysForm_102 (lv_at hl 6 rfl) ?_
          refine lv_iload hx hb dX12_laysForm_104 (lv_at hl 5 rfl) ?_
          refine lv_icmp_ge (tgt := 264) hx hb dX12_laysForm_106 (by decide) (fun c106_2053 => ?_) (fun c106_2053 => ?_)
          · rw [if_pos c106_2053] at h
            cases h
            exact sm_vret hx hb hr hlocks hP hS dX12_laysForm_264
          · rw [if_neg c106_2053] at h
            refine lv_iconst (v := (0 : Int32)) hx hb dX12_laysForm_109 (by decide) ?_
            refine lv_istore (lv' := [(7, .int (0 : Int32)), (0, .ref (adr a0)), (1, .int x1), (2, .int x2), (3, .int v3_2036), (4, .int s0_79_2045), (5, .int s0_97_2047), (6, .int x6_102_2049)]) hx hb dX12_laysForm_110 hl (by decide) rfl (fun ls hl => ?_)
            refine sm_lp (b := fun rc q => m_X12_laysForm_b112 a0 x1 x2 v3_2036 s0_79_2045 s0_97_2047 x6_102_2049 rc10_2041 rc102_2051 rc q.1 q.2) (P := fun (q : Int32 × smM) H locs ls => smP D cA 2 adr q.2 H ∧ va_S (smA 2 adr) s.heap H locs ∧ lv_has ls 11 [(0, .ref (adr a0)), (1, .int x1), (2, .int x2), (3, .int v3_2036), (4, .int s0_79_2045), (5, .int s0_97_2047), (6, .int x6_102_2049), (7, .int q.1)]) (pc := 112) ?_ _ _ _ _ _ h ⟨hP, hS, lv_sub hl [1, 2, 3, 4, 5, 6, 7, 0] rfl⟩
            intro rc112_2056 ih112_2057 q H locs ls h hI
            obtain ⟨x7_112_2054, M112_2055⟩ := q
            obtain ⟨hP, hS, hl⟩ := hI
            have hP : smP D cA 2 adr M112_2055 H := hP
            have hl : lv_has ls 11 [(0, .ref (adr a0)), (1, .int x1), (2, .int x2), (3, .int v3_2036), (4, .int s0_79_2045), (5, .int s0_97_2047), (6, .int x6_102_2049), (7, .int x7_112_2054)] := hl
            have h : m_X12_laysForm_b112 a0 x1 x2 v3_2036 s0_79_2045 s0_97_2047 x6_102_2049 rc10_2041 rc102_2051 rc112_2056 x7_112_2054 M112_2055 = some _ := h
            unfold m_X12_laysForm_b112 at h
            refine lv_iload hx hb dX12_laysForm_112 (lv_at hl 6 rfl) ?_
            refine lv_iload hx hb dX12_laysForm_114 (lv_at hl 7 rfl) ?_
            refine lv_iadd hx hb dX12_laysForm_116 ?_
            refine lv_iload hx hb dX12_laysForm_117 (lv_at hl 5 rfl) ?_
            refine lv_icmp_ge (tgt := 258) hx hb dX12_laysForm_119 (by decide) (fun c119_2058 => ?_) (fun c119_2058 => ?_)
            · rw [if_pos c119_2058] at h
              refine lv_iinc (v := (x6_102_2049 + (1 : Int32))) (lv' := [(6, .int (x6_102_2049 + (1 : Int32))), (0, .ref (adr a0)), (1, .int x1), (2, .int x2), (3, .int v3_2036), (4, .int s0_79_2045), (5, .int s0_97_2047), (7, .int x7_112_2054)]) hx hb dX12_laysForm_258 hl (k := 6) rfl (congrArg (fun z => x6_102_2049 + z) (by decide)) (by decide) rfl (fun ls hl => ?_)
              refine lv_goto (tgt := 102) hx hb dX12_laysForm_261 (by decide) ?_
              exact ih102_2052 ((x6_102_2049 + (1 : Int32)), M112_2055) _ _ _ h ⟨hP, hS, lv_sub hl [1, 2, 3, 4, 5, 6, 0] rfl⟩
            · rw [if_neg c119_2058] at h
              refine lv_aload_n hx hb dX12_laysForm_122 rfl (lv_at hl 0 rfl) ?_
              refine sm_get (ci := 12) (C := RX12) (T := TX12) (N := 54) (v := .ref (adr (a0 + 1))) hx hb hts hin12 hown hE hP ha0 rfl rfl 5 (by decide) (hts (.fieldLink RX12 25 "OrderMoverModel" "coefficients" "[I") (by decide +kernel)) (fun _ h9 => h9) rfl dX12_laysForm_123 ?_
              refine lv_iload hx hb dX12_laysForm_126 (lv_at hl 4 rfl) ?_
              refine sm_jn (x := M1) (T := fun (q : Int32) => m_X12_laysForm_j137 a0 x1 x2 v3_2036 s0_79_2045 s0_97_2047 x6_102_2049 x7_112_2054 (a0 + 1) M112_2055 rc10_2041 rc102_2051 rc112_2056 q) (P := fun (q : Int32) H locs ls => smP D cA 2 adr M112_2055 H ∧ va_S (smA 2 adr) s.heap H locs ∧ lv_has ls 11 [(0, .ref (adr a0)), (1, .int x1), (2, .int x2), (3, .int v3_2036), (4, .int s0_79_2045), (5, .int s0_97_2047), (6, .int x6_102_2049), (7, .int x7_112_2054)]) (st := fun (q : Int32) => [.int q, .ref (adr (a0 + 1))]) (pc := 137) ?_ (fun J137_2060 => ?_)
              · intro q H locs ls h hI
                obtain ⟨s0_137_2059, hq⟩ : ∃ y, y = q := ⟨_, rfl⟩; subst hq
                obtain ⟨hP, hS, hl⟩ := hI
                have hP : smP D cA 2 adr M112_2055 H := hP
                have hl : lv_has ls 11 [(0, .ref (adr a0)), (1, .int x1), (2, .int x2), (3, .int v3_2036), (4, .int s0_79_2045), (5, .int s0_97_2047), (6, .int x6_102_2049), (7, .int x7_112_2054)] := hl
                have h : m_X12_laysForm_j137 a0 x1 x2 v3_2036 s0_79_2045 s0_97_2047 x6_102_2049 x7_112_2054 (a0 + 1) M112_2055 rc10_2041 rc102_2051 rc112_2056 s0_137_2059 = some _ := h
                unfold m_X12_laysForm_j137 at h
                refine W.eq (g2 := F0 m 137 ls [.int s0_137_2059, .ref (adr (a0 + 1))]) rfl ?_
                refine lv_iconst (v := (3 : Int32)) hx hb dX12_laysForm_137 (by decide) ?_
                refine lv_iload hx hb dX12_laysForm_138 (lv_at hl 6 rfl) ?_
                refine lv_imul hx hb dX12_laysForm_140 ?_
                refine lv_iadd hx hb dX12_laysForm_141 ?_
                refine lv_iload hx hb dX12_laysForm_142 (lv_at hl 7 rfl) ?_
                refine lv_iadd hx hb dX12_laysForm_144 ?_
                obtain ⟨c145_2061, h⟩ := sm_ck h
                refine sm_iald hx hb hE hP (t12_5 ha0) c145_2061 dX12_laysForm_145 ?_
                refine lv_istore (lv' := [(8, .int (M112_2055 (a0 + 1) (((s0_137_2059 + ((3 : Int32) * x6_102_2049)) + x7_112_2054)).toNatClampNeg)), (0, .ref (adr a0)), (1, .int x1), (2, .int x2), (3, .int v3_2036), (4, .int s0_79_2045), (5, .int s0_97_2047), (6, .int x6_102_2049), (7, .int x7_112_2054)]) hx hb dX12_laysForm_146 hl (by decide) rfl (fun ls hl => ?_)
                refine lv_iload hx hb dX12_laysForm_148 (lv_at hl 5 rfl) ?_
                refine sm_jn (x := M1) (T := fun (q : Int32) => m_X12_laysForm_j190 a0 x1 x2 v3_2036 s0_79_2045 s0_97_2047 x6_102_2049 x7_112_2054 (M112_2055 (a0 + 1) (((s0_137_2059 + ((3 : Int32) * x6_102_2049)) + x7_112_2054)).toNatClampNeg) M112_2055 rc10_2041 rc102_2051 rc112_2056 q) (P := fun (q : Int32) H locs ls => smP D cA 2 adr M112_2055 H ∧ va_S (smA 2 adr) s.heap H locs ∧ lv_has ls 11 [(0, .ref (adr a0)), (1, .int x1), (2, .int x2), (3, .int v3_2036), (4, .int s0_79_2045), (5, .int s0_97_2047), (6, .int x6_102_2049), (7, .int x7_112_2054), (8, .int (M112_2055 (a0 + 1) (((s0_137_2059 + ((3 : Int32) * x6_102_2049)) + x7_112_2054)).toNatClampNeg))]) (st := fun (q : Int32) => [.int q]) (pc := 190) ?_ (fun J190_2063 => ?_)
                · intro q H locs ls h hI
                  obtain ⟨s0_190_2062, hq⟩ : ∃ y, y = q := ⟨_, rfl⟩; subst hq
                  obtain ⟨hP, hS, hl⟩ := hI
                  have hP : smP D cA 2 adr M112_2055 H := hP
                  have hl : lv_has ls 11 [(0, .ref (adr a0)), (1, .int x1), (2, .int x2), (3, .int v3_2036), (4, .int s0_79_2045), (5, .int s0_97_2047), (6, .int x6_102_2049), (7, .int x7_112_2054), (8, .int (M112_2055 (a0 + 1) (((s0_137_2059 + ((3 : Int32) * x6_102_2049)) + x7_112_2054)).toNatClampNeg))] := hl
                  have h : m_X12_laysForm_j190 a0 x1 x2 v3_2036 s0_79_2045 s0_97_2047 x6_102_2049 x7_112_2054 (M112_2055 (a0 + 1) (((s0_137_2059 + ((3 : Int32) * x6_102_2049)) + x7_112_2054)).toNatClampNeg) M112_2055 rc10_2041 rc102_2051 rc112_2056 s0_190_2062 = some _ := h
                  unfold m_X12_laysForm_j190 at h
                  refine W.eq (g2 := F0 m 190 ls [.int s0_190_2062]) rfl ?_
                  refine lv_istore (lv' := [(9, .int s0_190_2062), (0, .ref (adr a0)), (1, .int x1), (2, .int x2), (3, .int v3_2036), (4, .int s0_79_2045), (5, .int s0_97_2047), (6, .int x6_102_2049), (7, .int x7_112_2054), (8, .int (M112_2055 (a0 + 1) (((s0_137_2059 + ((3 : Int32) * x6_102_2049)) + x7_112_2054)).toNatClampNeg))]) hx hb dX12_laysForm_190 hl (by decide) rfl (fun ls hl => ?_)
                  refine lv_iconst (v := (0 : Int32)) hx hb dX12_laysForm_192 (by decide) ?_
                  refine lv_istore (lv' := [(10, .int (0 : Int32)), (9, .int s0_190_2062), (0, .ref (adr a0)), (1, .int x1), (2, .int x2), (3, .int v3_2036), (4, .int s0_79_2045), (5, .int s0_97_2047), (6, .int x6_102_2049), (7, .int x7_112_2054), (8, .int (M112_2055 (a0 + 1) (((s0_137_2059 + ((3 : Int32) * x6_102_2049)) + x7_112_2054)).toNatClampNeg))]) hx hb dX12_laysForm_193 hl (by decide) rfl (fun ls hl => ?_)
                  refine sm_lp (b := fun rc q => m_X12_laysForm_b195 a0 x1 x2 v3_2036 s0_79_2045 s0_97_2047 x6_102_2049 x7_112_2054 (M112_2055 (a0 + 1) (((s0_137_2059 + ((3 : Int32) * x6_102_2049)) + x7_112_2054)).toNatClampNeg) s0_190_2062 rc10_2041 rc102_2051 rc112_2056 rc q.1 q.2) (P := fun (q : Int32 × smM) H locs ls => smP D cA 2 adr q.2 H ∧ va_S (smA 2 adr) s.heap H locs ∧ lv_has ls 11 [(0, .ref (adr a0)), (1, .int x1), (2, .int x2), (3, .int v3_2036), (4, .int s0_79_2045), (5, .int s0_97_2047), (6, .int x6_102_2049), (7, .int x7_112_2054), (8, .int (M112_2055 (a0 + 1) (((s0_137_2059 + ((3 : Int32) * x6_102_2049)) + x7_112_2054)).toNatClampNeg)), (9, .int s0_190_2062), (10, .int q.1)]) (pc := 195) ?_ _ _ _ _ _ h ⟨hP, hS, lv_sub hl [2, 3, 4, 5, 6, 7, 8, 9, 10, 1, 0] rfl⟩
                  intro rc195_2066 ih195_2067 q H locs ls h hI
                  obtain ⟨x10_195_2064, M195_2065⟩ := q
                  obtain ⟨hP, hS, hl⟩ := hI
                  have hP : smP D cA 2 adr M195_2065 H := hP
                  have hl : lv_has ls 11 [(0, .ref (adr a0)), (1, .int x1), (2, .int x2), (3, .int v3_2036), (4, .int s0_79_2045), (5, .int s0_97_2047), (6, .int x6_102_2049), (7, .int x7_112_2054), (8, .int (M112_2055 (a0 + 1) (((s0_137_2059 + ((3 : Int32) * x6_102_2049)) + x7_112_2054)).toNatClampNeg)), (9, .int s0_190_2062), (10, .int x10_195_2064)] := hl
                  have h : m_X12_laysForm_b195 a0 x1 x2 v3_2036 s0_79_2045 s0_97_2047 x6_102_2049 x7_112_2054 (M112_2055 (a0 + 1) (((s0_137_2059 + ((3 : Int32) * x6_102_2049)) + x7_112_2054)).toNatClampNeg) s0_190_2062 rc10_2041 rc102_2051 rc112_2056 rc195_2066 x10_195_2064 M195_2065 = some _ := h
                  unfold m_X12_laysForm_b195 at h
                  refine lv_iload hx hb dX12_laysForm_195 (lv_at hl 10 rfl) ?_
                  refine lv_bipush (v := (9 : Int32)) hx hb dX12_laysForm_197 (by decide) ?_
                  refine lv_icmp_ge (tgt := 252) hx hb dX12_laysForm_199 (by decide) (fun c199_2068 => ?_) (fun c199_2068 => ?_)
                  · rw [if_pos c199_2068] at h
                    refine lv_iinc (v := (x7_112_2054 + (1 : Int32))) (lv' := [(7, .int (x7_112_2054 + (1 : Int32))), (0, .ref (adr a0)), (1, .int x1), (2, .int x2), (3, .int v3_2036), (4, .int s0_79_2045), (5, .int s0_97_2047), (6, .int x6_102_2049), (8, .int (M112_2055 (a0 + 1) (((s0_137_2059 + ((3 : Int32) * x6_102_2049)) + x7_112_2054)).toNatClampNeg)), (9, .int s0_190_2062), (10, .int x10_195_2064)]) hx hb dX12_laysForm_252 hl (k := 7) rfl (congrArg (fun z => x7_112_2054 + z) (by decide)) (by decide) rfl (fun ls hl => ?_)
                    refine lv_goto (tgt := 112) hx hb dX12_laysForm_255 (by decide) ?_
                    exact ih112_2057 ((x7_112_2054 + (1 : Int32)), M195_2065) _ _ _ h ⟨hP, hS, lv_sub hl [1, 2, 3, 4, 5, 6, 7, 0] rfl⟩
                  · rw [if_neg c199_2068] at h
                    refine lv_iload hx hb dX12_laysForm_202 (lv_at hl 8 rfl) ?_
                    refine lv_if_eq (tgt := 252) hx hb dX12_laysForm_204 (by decide) (fun c204_2069 => ?_) (fun c204_2069 => ?_)
                    · rw [if_pos c204_2069] at h
                      refine lv_iinc (v := (x7_112_2054 + (1 : Int32))) (lv' := [(7, .int (x7_112_2054 + (1 : Int32))), (0, .ref (adr a0)), (1, .int x1), (2, .int x2), (3, .int v3_2036), (4, .int s0_79_2045), (5, .int s0_97_2047), (6, .int x6_102_2049), (8, .int (M112_2055 (a0 + 1) (((s0_137_2059 + ((3 : Int32) * x6_102_2049)) + x7_112_2054)).toNatClampNeg)), (9, .int s0_190_2062), (10, .int x10_195_2064)]) hx hb dX12_laysForm_252 hl (k := 7) rfl (congrArg (fun z => x7_112_2054 + z) (by decide)) (by decide) rfl (fun ls hl => ?_)
                      refine lv_goto (tgt := 112) hx hb dX12_laysForm_255 (by decide) ?_
                      exact ih112_2057 ((x7_112_2054 + (1 : Int32)), M195_2065) _ _ _ h ⟨hP, hS, lv_sub hl [1, 2, 3, 4, 5, 6, 7, 0] rfl⟩
                    · rw [if_neg c204_2069] at h
                      refine lv_aload_n hx hb dX12_laysForm_207 rfl (lv_at hl 0 rfl) ?_
                      refine sm_get (ci := 12) (C := RX12) (T := TX12) (N := 54) (v := .ref (adr (a0 + 15))) hx hb hts hin12 hown hE hP ha0 rfl rfl 19 (by decide) (hts (.fieldLink RX12 69 "OrderMoverModel" "forms" "[I") (by decide +kernel)) (fun _ h9 => h9) rfl dX12_laysForm_208 ?_
                      refine lv_iload_n hx hb dX12_laysForm_211 rfl (lv_at hl 3 rfl) ?_
                      refine lv_iload hx hb dX12_laysForm_212 (lv_at hl 10 rfl) ?_
                      refine lv_iadd hx hb dX12_laysForm_214 ?_
                      refine lv_aload_n hx hb dX12_laysForm_215 rfl (lv_at hl 0 rfl) ?_
                      refine lv_aload_n hx hb dX12_laysForm_216 rfl (lv_at hl 0 rfl) ?_
                      refine sm_get (ci := 12) (C := RX12) (T := TX12) (N := 54) (v := .ref (adr (a0 + 15))) hx hb hts hin12 hown hE hP ha0 rfl rfl 19 (by decide) (hts (.fieldLink RX12 69 "OrderMoverModel" "forms" "[I") (by decide +kernel)) (fun _ h9 => h9) rfl dX12_laysForm_217 ?_
                      refine lv_iload_n hx hb dX12_laysForm_220 rfl (lv_at hl 3 rfl) ?_
                      refine lv_iload hx hb dX12_laysForm_221 (lv_at hl 10 rfl) ?_
                      refine lv_iadd hx hb dX12_laysForm_223 ?_
                      obtain ⟨c224_2070, h⟩ := sm_ck h
                      refine sm_iald hx hb hE hP (t12_19 ha0) c224_2070 dX12_laysForm_224 ?_
                      refine lv_i2l hx hb dX12_laysForm_225 rfl ?_
                      refine lv_iload hx hb dX12_laysForm_226 (lv_at hl 8 rfl) ?_
                      refine lv_i2l hx hb dX12_laysForm_228 rfl ?_
                      refine lv_aload_n hx hb dX12_laysForm_229 rfl (lv_at hl 0 rfl) ?_
                      refine sm_get (ci := 12) (C := RX12) (T := TX12) (N := 54) (v := .ref (adr (a0 + 15))) hx hb hts hin12 hown hE hP ha0 rfl rfl 19 (by decide) (hts (.fieldLink RX12 69 "OrderMoverModel" "forms" "[I") (by decide +kernel)) (fun _ h9 => h9) rfl dX12_laysForm_230 ?_
                      refine lv_iload hx hb dX12_laysForm_233 (lv_at hl 9 rfl) ?_
                      refine lv_iload hx hb dX12_laysForm_235 (lv_at hl 10 rfl) ?_
                      refine lv_iadd hx hb dX12_laysForm_237 ?_
                      obtain ⟨c238_2071, h⟩ := sm_ck h
                      refine sm_iald hx hb hE hP (t12_19 ha0) c238_2071 dX12_laysForm_238 ?_
                      refine lv_i2l hx hb dX12_laysForm_239 rfl ?_
                      refine lv_lmul hx hb dX12_laysForm_240 ?_
                      refine lv_lsub hx hb dX12_laysForm_241 ?_
                      obtain ⟨v242_2072, hc242_2074, h⟩ := sm_bd h
                      refine sm_ci (va_runV (As := [.long (((M195_2065 (a0 + 15) ((v3_2036 + x10_195_2064)).toNatClampNeg)).toInt64 - (((M112_2055 (a0 + 1) (((s0_137_2059 + ((3 : Int32) * x6_102_2049)) + x7_112_2054)).toNatClampNeg)).toInt64 * ((M195_2065 (a0 + 15) ((s0_190_2062 + x10_195_2064)).toNatClampNeg)).toInt64))]) (rest := [.int (v3_2036 + x10_195_2064), .ref (adr (a0 + 15))]) ⟨hx, hb, hml, hown, hts⟩ (k_X12_mod l D cA adr hJ a0 (((M195_2065 (a0 + 15) ((v3_2036 + x10_195_2064)).toNatClampNeg)).toInt64 - (((M112_2055 (a0 + 1) (((s0_137_2059 + ((3 : Int32) * x6_102_2049)) + x7_112_2054)).toNatClampNeg)).toInt64 * ((M195_2065 (a0 + 15) ((s0_190_2062 + x10_195_2064)).toNatClampNeg)).toInt64)) ha0 M195_2065 v242_2072 hc242_2074) (cwV 1 hts gX12_laysForm_X12_mod rfl rfl rfl (by decide +kernel) ⟨Nat.le_of_ble_eq_true rfl, Nat.le_of_ble_eq_true rfl⟩) ⟨smPc_bl, smRv hE hP ha0 rfl (ci := 12) (q := (RX12, TX12, 54)) rfl, smPc_in [.ref (adr a0), .long (((M195_2065 (a0 + 15) ((v3_2036 + x10_195_2064)).toNatClampNeg)).toInt64 - (((M112_2055 (a0 + 1) (((s0_137_2059 + ((3 : Int32) * x6_102_2049)) + x7_112_2054)).toNatClampNeg)).toInt64 * ((M195_2065 (a0 + 15) ((s0_190_2062 + x10_195_2064)).toNatClampNeg)).toInt64))] hE hP⟩ rfl rfl hl.1 rfl (lv_room (Nat.le_of_ble_eq_true rfl)) dX12_laysForm_242 ⟨Nat.zero_le _, Nat.zero_le _⟩) hS (fun H locs hP hS => ?_)
                      obtain ⟨c245_2075, h⟩ := sm_ck h
                      refine sm_iast hx hb hE hJ hP hS (t12_19 ha0) c245_2075 dX12_laysForm_245 (fun H locs hP hS => ?_)
                      obtain ⟨M245_2076, hM, h⟩ := sm_lt h
                      rw [← hM] at hP; clear hM
                      refine lv_iinc (v := (x10_195_2064 + (1 : Int32))) (lv' := [(10, .int (x10_195_2064 + (1 : Int32))), (0, .ref (adr a0)), (1, .int x1), (2, .int x2), (3, .int v3_2036), (4, .int s0_79_2045), (5, .int s0_97_2047), (6, .int x6_102_2049), (7, .int x7_112_2054), (8, .int (M112_2055 (a0 + 1) (((s0_137_2059 + ((3 : Int32) * x6_102_2049)) + x7_112_2054)).toNatClampNeg)), (9, .int s0_190_2062)]) hx hb dX12_laysForm_246 hl (k := 10) rfl (congrArg (fun z => x10_195_2064 + z) (by decide)) (by decide) rfl (fun ls hl => ?_)
                      refine lv_goto (tgt := 195) hx hb dX12_laysForm_249 (by decide) ?_
                      exact ih195_2067 ((x10_195_2064 + (1 : Int32)), M245_2076) _ _ _ h ⟨hP, hS, lv_sub hl [1, 2, 3, 4, 5, 6, 7, 8, 9, 10, 0] rfl⟩
                refine lv_if_eq (tgt := 173) hx hb dX12_laysForm_150 (by decide) (fun c150_2077 => ?_) (fun c150_2077 => ?_)
                · rw [if_pos c150_2077] at h
                  refine lv_aload_n hx hb dX12_laysForm_173 rfl (lv_at hl 1 rfl) ?_
                  refine lv_iload_n hx hb dX12_laysForm_174 rfl (lv_at hl 2 rfl) ?_
                  refine lv_iload hx hb dX12_laysForm_175 (lv_at hl 7 rfl) ?_
                  refine lv_iadd hx hb dX12_laysForm_177 ?_
                  refine lv_iload_n hx hb dX12_laysForm_178 rfl (lv_at hl 3 rfl) ?_
                  refine lv_aload_n hx hb dX12_laysForm_179 rfl (lv_at hl 1 rfl) ?_
                  refine sm_get (ci := 12) (C := RX12) (T := TX12) (N := 54) (v := .int (M112_2055 a0 2)) hx hb hts hin12 hown hE hP ha0 rfl rfl 2 (by decide) (hts (.fieldLink RX12 16 "OrderMoverModel" "powerB" "I") (by decide +kernel)) (fun _ h9 => h9) rfl dX12_laysForm_180 ?_
                  refine lv_isub hx hb dX12_laysForm_183 ?_
                  refine lv_iload hx hb dX12_laysForm_184 (lv_at hl 8 rfl) ?_
                  refine lv_iadd hx hb dX12_laysForm_186 ?_
                  obtain ⟨v187_2078, hc187_2080, h⟩ := sm_bd h
                  refine sm_ci (va_runV (As := [.int (x1 + x6_102_2049), .int ((x2 - (M112_2055 a0 2)) + x7_112_2054)]) (rest := []) ⟨hx, hb, hml, hown, hts⟩ (k_X12_formAt l D cA adr hJ a0 (x1 + x6_102_2049) ((x2 - (M112_2055 a0 2)) + x7_112_2054) ha0 M112_2055 v187_2078 hc187_2080) (cwV 2 hts gX12_laysForm_X12_formAt rfl rfl rfl (by decide +kernel) ⟨Nat.le_of_ble_eq_true rfl, Nat.le_of_ble_eq_true rfl⟩) ⟨smPc_bl, smRv hE hP ha0 rfl (ci := 12) (q := (RX12, TX12, 54)) rfl, smPc_in [.ref (adr a0), .int (x1 + x6_102_2049), .int ((x2 - (M112_2055 a0 2)) + x7_112_2054)] hE hP⟩ rfl rfl hl.1 rfl (lv_room (Nat.le_of_ble_eq_true rfl)) dX12_laysForm_187 ⟨Nat.zero_le _, Nat.zero_le _⟩) hS (fun H locs hP hS => ?_)
                  exact J190_2063 v187_2078 _ _ _ h ⟨hP, hS, lv_sub hl [1, 2, 3, 4, 5, 6, 7, 8, 0] rfl⟩
                · rw [if_neg c150_2077] at h
                  refine lv_aload_n hx hb dX12_laysForm_153 rfl (lv_at hl 1 rfl) ?_
                  refine lv_iload_n hx hb dX12_laysForm_154 rfl (lv_at hl 2 rfl) ?_
                  refine lv_aload_n hx hb dX12_laysForm_155 rfl (lv_at hl 1 rfl) ?_
                  refine sm_get (ci := 12) (C := RX12) (T := TX12) (N := 54) (v := .int (M112_2055 a0 1)) hx hb hts hin12 hown hE hP ha0 rfl rfl 1 (by decide) (hts (.fieldLink RX12 13 "OrderMoverModel" "powerA" "I") (by decide +kernel)) (fun _ h9 => h9) rfl dX12_laysForm_156 ?_
                  refine lv_isub hx hb dX12_laysForm_159 ?_
                  refine lv_iload hx hb dX12_laysForm_160 (lv_at hl 7 rfl) ?_
                  refine lv_iadd hx hb dX12_laysForm_162 ?_
                  refine lv_iload_n hx hb dX12_laysForm_163 rfl (lv_at hl 3 rfl) ?_
                  refine lv_iload hx hb dX12_laysForm_164 (lv_at hl 8 rfl) ?_
                  refine lv_iadd hx hb dX12_laysForm_166 ?_
                  obtain ⟨v167_2081, hc167_2083, h⟩ := sm_bd h
                  refine sm_ci (va_runV (As := [.int ((x1 - (M112_2055 a0 1)) + x6_102_2049), .int (x2 + x7_112_2054)]) (rest := []) ⟨hx, hb, hml, hown, hts⟩ (k_X12_formAt l D cA adr hJ a0 ((x1 - (M112_2055 a0 1)) + x6_102_2049) (x2 + x7_112_2054) ha0 M112_2055 v167_2081 hc167_2083) (cwV 2 hts gX12_laysForm_X12_formAt rfl rfl rfl (by decide +kernel) ⟨Nat.le_of_ble_eq_true rfl, Nat.le_of_ble_eq_true rfl⟩) ⟨smPc_bl, smRv hE hP ha0 rfl (ci := 12) (q := (RX12, TX12, 54)) rfl, smPc_in [.ref (adr a0), .int ((x1 - (M112_2055 a0 1)) + x6_102_2049), .int (x2 + x7_112_2054)] hE hP⟩ rfl rfl hl.1 rfl (lv_room (Nat.le_of_ble_eq_true rfl)) dX12_laysForm_167 ⟨Nat.zero_le _, Nat.zero_le _⟩) hS (fun H locs hP hS => ?_)
                  refine lv_goto (tgt := 190) hx hb dX12_laysForm_170 (by decide) ?_
                  exact J190_2063 v167_2081 _ _ _ h ⟨hP, hS, lv_sub hl [1, 2, 3, 4, 5, 6, 7, 8, 0] rfl⟩
              refine lv_if_eq (tgt := 135) hx hb dX12_laysForm_128 (by decide) (fun c128_2084 => ?_) (fun c128_2084 => ?_)
              · rw [if_pos c128_2084] at h
                refine lv_bipush (v := (9 : Int32)) hx hb dX12_laysForm_135 (by decide) ?_
                exact J137_2060 (9 : Int32) _ _ _ h ⟨hP, hS, lv_sub hl [0, 1, 2, 3, 4, 5, 6, 7] rfl⟩
              · rw [if_neg c128_2084] at h
                refine lv_iconst (v := (0 : Int32)) hx hb dX12_laysForm_131 (by decide) ?_
                refine lv_goto (tgt := 137) hx hb dX12_laysForm_132 (by decide) ?_
                exact J137_2060 (0 : Int32) _ _ _ h ⟨hP, hS, lv_sub hl [0, 1, 2, 3, 4, 5, 6, 7] rfl⟩
        refine lv_if_eq (tgt := 93) hx hb dX12_laysForm_83 (by decide) (fun c83_2085 => ?_) (fun c83_2085 => ?_)
        · rw [if_pos c83_2085] at h
          refine lv_aload_n hx hb dX12_laysForm_93 rfl (lv_at hl 1 rfl) ?_
          refine sm_get (ci := 12) (C := RX12) (T := TX12) (N := 54) (v := .int (M10_2040 a0 2)) hx hb hts hin12 hown hE hP ha0 rfl rfl 2 (by decide) (hts (.fieldLink RX12 16 "OrderMoverModel" "powerB" "I") (by decide +kernel)) (fun _ h9 => h9) rfl dX12_laysForm_94 ?_
          exact J97_2048 (M10_2040 a0 2) _ _ _ h ⟨hP, hS, lv_sub hl [1, 2, 3, 4, 0] rfl⟩
        · rw [if_neg c83_2085] at h
          refine lv_aload_n hx hb dX12_laysForm_86 rfl (lv_at hl 1 rfl) ?_
          refine sm_get (ci := 12) (C := RX12) (T := TX12) (N := 54) (v := .int (M10_2040 a0 1)) hx hb hts hin12 hown hE hP ha0 rfl rfl 1 (by decide) (hts (.fieldLink RX12 13 "OrderMoverModel" "powerA" "I") (by decide +kernel)) (fun _ h9 => h9) rfl dX12_laysForm_87 ?_
          refine lv_goto (tgt := 97) hx hb dX12_laysForm_90 (by decide) ?_
          exact J97_2048 (M10_2040 a0 1) _ _ _ h ⟨hP, hS, lv_sub hl [1, 2, 3, 4, 0] rfl⟩
      refine lv_icmp_lt (tgt := 78) hx hb dX12_laysForm_71 (by decide) (fun c71_2086 => ?_) (fun c71_2086 => ?_)
      · rw [if_pos c71_2086] at h
        refine lv_iconst (v := (0 : Int32)) hx hb dX12_laysForm_78 (by decide) ?_
        exact J79_2046 (0 : Int32) _ _ _ h ⟨hP, hS, lv_sub hl [0, 1, 2, 3] rfl⟩
      · rw [if_neg c71_2086] at h
        refine lv_iconst (v := (1 : Int32)) hx hb dX12_laysForm_74 (by decide) ?_
        refine lv_goto (tgt := 79) hx hb dX12_laysForm_75 (by decide) ?_
        exact J79_2046 (1 : Int32) _ _ _ h ⟨hP, hS, lv_sub hl [0, 1, 2, 3] rfl⟩
    refine lv_icmp_ge (tgt := 66) hx hb dX12_laysForm_38 (by decide) (fun c38_2087 => ?_) (fun c38_2087 => ?_)
    · rw [if_pos c38_2087] at h
      exact J66_2044 () _ _ _ h ⟨hP, hS, lv_sub hl [0, 1, 2, 3] rfl⟩
    · rw [if_neg c38_2087] at h
      refine lv_iload_n hx hb dX12_laysForm_41 rfl (lv_at hl 2 rfl) ?_
      refine lv_aload_n hx hb dX12_laysForm_42 rfl (lv_at hl 0 rfl) ?_
      refine sm_get (ci := 12) (C := RX12) (T := TX12) (N := 54) (v := .int (M10_2040 a0 2)) hx hb hts hin12 hown hE hP ha0 rfl rfl 2 (by decide) (hts (.fieldLink RX12 16 "OrderMoverModel" "powerB" "I") (by decide +kernel)) (fun _ h9 => h9) rfl dX12_laysForm_43 ?_
      refine lv_icmp_ge (tgt := 66) hx hb dX12_laysForm_46 (by decide) (fun c46_2088 => ?_) (fun c46_2088 => ?_)
      · rw [if_pos c46_2088] at h
        exact J66_2044 () _ _ _ h ⟨hP, hS, lv_sub hl [0, 1, 2, 3] rfl⟩
      · rw [if_neg c46_2088] at h
        refine lv_aload_n hx hb dX12_laysForm_49 rfl (lv_at hl 0 rfl) ?_
        refine sm_get (ci := 12) (C := RX12) (T := TX12) (N := 54) (v := .ref (adr (a0 + 15))) hx hb hts hin12 hown hE hP ha0 rfl rfl 19 (by decide) (hts (.fieldLink RX12 69 "OrderMoverModel" "forms" "[I") (by decide +kernel)) (fun _ h9 => h9) rfl dX12_laysForm_50 ?_
        refine lv_iload_n hx hb dX12_laysForm_53 rfl (lv_at hl 3 rfl) ?_
        refine lv_aload_n hx hb dX12_laysForm_54 rfl (lv_at hl 0 rfl) ?_
        refine sm_get (ci := 12) (C := RX12) (T := TX12) (N := 54) (v := .int (M10_2040 a0 1)) hx hb hts hin12 hown hE hP ha0 rfl rfl 1 (by decide) (hts (.fieldLink RX12 13 "OrderMoverModel" "powerA" "I") (by decide +kernel)) (fun _ h9 => h9) rfl dX12_laysForm_55 ?_
        refine lv_iload_n hx hb dX12_laysForm_58 rfl (lv_at hl 2 rfl) ?_
        refine lv_imul hx hb dX12_laysForm_59 ?_
        refine lv_iadd hx hb dX12_laysForm_60 ?_
        refine lv_iload_n hx hb dX12_laysForm_61 rfl (lv_at hl 1 rfl) ?_
        refine lv_iadd hx hb dX12_laysForm_62 ?_
        refine lv_iconst (v := (1 : Int32)) hx hb dX12_laysForm_63 (by decide) ?_
        obtain ⟨c64_2089, h⟩ := sm_ck h
        refine sm_iast hx hb hE hJ hP hS (t12_19 ha0) c64_2089 dX12_laysForm_64 (fun H locs hP hS => ?_)
        obtain ⟨M64_2090, hM, h⟩ := sm_lt h
        rw [← hM] at hP; clear hM
        cases h
        exact sm_vret hx hb hr hlocks hP hS dX12_laysForm_65
  · rw [if_neg c14_2043] at h
    refine lv_aload_n hx hb dX12_laysForm_17 rfl (lv_at hl 0 rfl) ?_
    refine sm_get (ci := 12) (C := RX12) (T := TX12) (N := 54) (v := .ref (adr (a0 + 15))) hx hb hts hin12 hown hE hP ha0 rfl rfl 19 (by decide) (hts (.fieldLink RX12 69 "OrderMoverModel" "forms" "[I") (by decide +kernel)) (fun _ h9 => h9) rfl dX12_laysForm_18 ?_
    refine lv_iload_n hx hb dX12_laysForm_21 rfl (lv_at hl 3 rfl) ?_
    refine lv_iload hx hb dX12_laysForm_22 (lv_at hl 4 rfl) ?_
    refine lv_iadd hx hb dX12_laysForm_24 ?_
    refine lv_iconst (v := (0 : Int32)) hx hb dX12_laysForm_25 (by decide) ?_
    obtain ⟨c26_2091, h⟩ := sm_ck h
    refine sm_iast hx hb hE hJ hP hS (t12_19 ha0) c26_2091 dX12_laysForm_26 (fun H locs hP hS => ?_)
    obtain ⟨M26_2092, hM, h⟩ := sm_lt h
    rw [← hM] at hP; clear hM
    refine lv_iinc (v := (x4_10_2039 + (1 : Int32))) (lv' := [(4, .int (x4_10_2039 + (1 : Int32))), (0, .ref (adr a0)), (1, .int x1), (2, .int x2), (3, .int v3_2036)]) hx hb dX12_laysForm_27 hl (k := 4) rfl (congrArg (fun z => x4_10_2039 + z) (by decide)) (by decide) rfl (fun ls hl => ?_)
    refine lv_goto (tgt := 10) hx hb dX12_laysForm_30 (by decide) ?_
    exact ih10_2042 ((x4_10_2039 + (1 : Int32)), M26_2092) _ _ _ h ⟨hP, hS, lv_sub hl [1, 2, 3, 4, 0] rfl⟩
