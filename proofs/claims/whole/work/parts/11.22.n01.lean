/-- what the tables say of an array of arrays: its own word for one of objects stands in the kit -/
def va_AOA (t : FieldType) (U : State) : Prop := (Cond.arrayOver (.array t)).before #[] U = true
theorem va_AOA.of {t : FieldType} {A : Array Value} {U : State} (h : (Cond.arrayOver (.array t)).before A U = true) : va_AOA t U := h
theorem va_AOA.use {t : FieldType} {A : Array Value} {U : State} (h : va_AOA t U) : (Cond.arrayOver (.array t)).before A U = true := h
/-! ===== BEGIN words of one list among another's, by their places ===== -/
theorem goodIn_r {big : List Cond} (ws : List Cond) (ps : List Nat) (hp : ws = ps.filterMap (fun i => big[i]?)) (h : ws.all goodWord = true) : GoodIn big ws := by
  intro w hw
  have h1 := List.all_eq_true.mp h w hw
  rw [hp] at hw
  obtain ⟨i, -, hi⟩ := List.mem_filterMap.mp hw
  have hm : w ∈ big := by first | exact List.mem_of_getElem? hi | exact List.getElem?_mem hi
  exact ⟨hm, good_of_word h1⟩
theorem goodIn_app {big a b : List Cond} (ha : GoodIn big a) (hb : GoodIn big b) : GoodIn big (a ++ b) := fun w h => (List.mem_append.mp h).elim (ha w) (hb w)
theorem goodIn_ca {big a b : List Cond} {c : Cond} (ha : GoodIn big (c :: a)) (hb : GoodIn big b) : GoodIn big (c :: (a ++ b)) := fun w h => (List.mem_cons.mp h).elim (fun e => ha w (List.mem_cons.mpr (Or.inl e))) (fun h => (List.mem_append.mp h).elim (fun h => ha w (List.mem_cons.mpr (Or.inr h))) (hb w))
theorem goodIn_sub {big ws : List Cond} (hm : ∀ w ∈ ws, w ∈ big) (h : ws.all goodWord = true) : GoodIn big ws := fun w hw => ⟨hm w hw, good_of_word (List.all_eq_true.mp h w hw)⟩
/-! ===== END ===== -/

/-! ===== BEGIN new T[n][m]: the outer array a place, the inner ones among the pooled ===== -/
/-- f, but v at every address of l -/
def vr_up {α : Type} (f : Nat → α) (l : List Nat) (v : α) : Nat → α := fun a => if a ∈ l then v else f a
theorem vr_up_in {α : Type} {f : Nat → α} {l : List Nat} {v : α} {a : Nat} (h : a ∈ l) : vr_up f l v a = v := if_pos h
theorem vr_up_ne {α : Type} {f : Nat → α} {l : List Nat} {v : α} {a : Nat} (h : a ∉ l) : vr_up f l v a = f a := if_neg h
theorem vr_rows {L l : List Nat} {f : Nat → va_E} {e : va_E} (h : ∀ a, a ∈ l → a ∉ L) : va_pl L f ++ l.map (fun a => (a, e)) = va_pl (L ++ l) (vr_up f l e) := by
  unfold va_pl
  rw [List.map_append]
  congr 1
  · apply List.map_congr_left
    intro a ha
    rw [vr_up_ne (fun q => h a q ha)]
  · apply List.map_congr_left
    intro a ha
    rw [vr_up_in ha]
theorem vr_lay {X rows : va_W} {x : Nat × va_E} {pl : va_W} {D : va_G} {cl : List vw_C} {H : Heap} (hP : va_P D cl (((X ++ pl) ++ [x]) ++ rows) H) : va_P D cl ((X ++ [x]) ++ (pl ++ rows)) H := by
  rw [List.append_assoc (X ++ pl)] at hP
  have h := va_P.swap hP
  rw [← List.append_assoc X] at h
  have h2 := va_P.swap h
  rw [List.append_assoc (X ++ [x])] at h2
  exact h2
theorem vr_layD {X rows : va_W} {x : Nat × va_E} {pl : va_W} {A : Nat → Prop} (hD : va_D A (((X ++ pl) ++ [x]) ++ rows)) : va_D A ((X ++ [x]) ++ (pl ++ rows)) := by
  rw [List.append_assoc (X ++ pl)] at hD
  have h := va_D.swap hD
  rw [← List.append_assoc X] at h
  have h2 := va_D.swap h
  rw [List.append_assoc (X ++ [x])] at h2
  exact h2
theorem vr_outer (c : ClassId) (N h0 : Nat) : ∀ i : Nat, Jvm.Free.Multi.outerC c N h0 i = arrV c N (fun j => va_rf (if j < i then some (h0 + 1 + j) else none))
  | 0 => by
    show ({ cls := c, slots := Array.replicate N .null, vm := .none } : Cell) = _
    rw [arrV_new]
    refine congrArg (arrV c N) (funext fun j => ?_)
    simp [va_rf]
  | i + 1 => by
    show (Jvm.Free.Multi.outerC c N h0 i).setSlot i (.ref (h0 + 1 + i)) = _
    rw [vr_outer c N h0 i, arrV_store]
    refine congrArg (arrV c N) (funext fun j => ?_)
    by_cases e : j = i
    · subst e
      simp [updV, va_rf]
    · by_cases h : j < i
      · simp [updV, e, h, Nat.lt_succ_of_lt h]
      · simp [updV, e, h, show ¬ j < i + 1 by omega]
section VGM
variable {p : Program} {l : Launch} {e : Env} {R : Room} {s : State} {m : MethodId} {args : Array Value} {below : List Frame} {meth : Method} {c : Code} {H : Heap} {locs : List Loc} {cells slots : Nat} {Q : State → Prop}
variable {cc : ByteArray} {pc : Nat} {ls : Array Slot} {rest : List Value} {D : va_G} {cl : List vw_C} {A : Nat → Prop} {a : Nat} {tys : List (ClassId × FieldType)} {ws : va_W} {H0 : Heap}
theorem va_mna {X : va_W} {L : List Nat} {f : Nat → va_E} {cc : ByteArray} (hexec : p.tables.exec = Jvm.exec) (hb : c.code = cc) {own : String} {index : Nat} {ty : FieldType} {cy : ClassId} (hown : s.vm.findClass own = some m.cls) (hclink : (Cond.classLink own index ("[" ++ (FieldType.array ty).toString)).before args s = true) (hover : va_AOA ty s) (harr : (Cond.arrayClass ty).before args s = true) (hcy : s.vm.findClass (FieldType.array ty).toString = some cy)
    (hK : va_K D cl tys s) (hP : va_P D cl (X ++ va_pl L f) H) (hD : va_D A (X ++ va_pl L f)) (hS : va_S A H0 H locs) (hA : ∀ q, H0.size ≤ q → A q) {n k : Int32} {N' K' : Nat} {z : vp_A} (hn : ¬ n < 0) (hk : ¬ k < 0) (hN : n.toNatClampNeg = N') (hM : k.toNatClampNeg = K')
    (hb1 : N' * 4 ≤ 536870912) (hb2 : K' * componentBytes ty ≤ 536870912) (hb3 : K' ≤ 536870912) (hdf : fits ty (defaultValue ty) = true) (hdd : (defaultValue ty).isDefault = true) (hcells : cells + (1 + N') ≤ R.cells) (hslots : slots + (N' + N' * K') ≤ R.slots) (hz : ∀ c : ClassId, Jvm.Free.Multi.innerC c K' (defaultValue ty) = vp_cell c z) (hdg : decode cc pc = .ok (.multianewarray index 2, 4))
    (kk : ∀ (q : Nat) (r : Nat → Nat) (cA : ClassId) (H1 : Heap), (∀ i j : Nat, i < N' → j < N' → r i = r j → i = j) → (∀ i : Nat, i < N' → r i ∉ L) → va_K D cl (tys ++ [(cA, .array ty)]) s →
      va_P D cl ((X ++ [(q, .inl (cA, N', .inr (.inr (.inr (.inr (fun i => if i < N' then some (r i) else none))))))]) ++ va_pl (L ++ (List.range N').map r) (vr_up f ((List.range N').map r) (.inl (cy, z)))) H1 → va_D A ((X ++ [(q, .inl (cA, N', .inr (.inr (.inr (.inr (fun i => if i < N' then some (r i) else none))))))]) ++ va_pl (L ++ (List.range N').map r) (vr_up f ((List.range N').map r) (.inl (cy, z)))) → va_S A H0 H1 locs →
      W p l e R s m args below meth c H1 locs (cells + 1 + N') (slots + N' + N' * K') Q (F0 m (pc + 4) ls (.ref q :: rest))) : W p l e R s m args below meth c H locs cells slots Q (F0 m pc ls (.int k :: .int n :: rest)) := by
  subst hN
  subst hM
  intro T hT Xs
  obtain ⟨vm₁, cA, comp, -, fA, fC, hO, -, X', step⟩ := Xs.multianewarray2F hexec hown hclink (va_AOA.use hover) harr (g := F0 m pc ls (.int k :: .int n :: rest)) rfl (by rw [hb]; exact hdg) rfl hn hk hb1 hb2 hb3 hdf hdd hcells hslots
  have ec : some cy = some comp := hcy.symm.trans fC
  cases ec
  generalize hF : Jvm.Free.Multi.fill (T.setVm vm₁) cA cy n.toNatClampNeg k.toNatClampNeg (defaultValue ty) n.toNatClampNeg = F at X' step
  have hTh : (T.setVm vm₁).heap = H := hT
  obtain ⟨f1, f2, -, -⟩ := Jvm.Free.Multi.fill_facts (T.setVm vm₁) cA cy n.toNatClampNeg k.toNatClampNeg (defaultValue ty) n.toNatClampNeg
  rw [hF, hTh] at f1 f2
  have hold : ∀ x : Nat, x < H.size → F.heap[x]? = H[x]? := fun x hx => by
    have := Jvm.Free.Multi.fill_old (T.setVm vm₁) cA cy n.toNatClampNeg k.toNatClampNeg (defaultValue ty) (a := x) (by rw [hTh]; exact hx) n.toNatClampNeg
    rw [hF, hTh] at this
    exact this
  have hrow : ∀ j : Nat, j < n.toNatClampNeg → F.heap[H.size + 1 + j]? = some (vp_cell cy z) := fun j hj => by
    have := Jvm.Free.Multi.fill_inner (T.setVm vm₁) cA cy n.toNatClampNeg k.toNatClampNeg (defaultValue ty) n.toNatClampNeg j hj
    rw [hF, hTh, hz] at this
    exact this
  have hout : Jvm.Free.Multi.outerC cA n.toNatClampNeg H.size n.toNatClampNeg = vp_cell cA (n.toNatClampNeg, .inr (.inr (.inr (.inr (fun i => if i < n.toNatClampNeg then some (H.size + 1 + i) else none))))) := by
    rw [vp_cell_q]
    exact vr_outer cA n.toNatClampNeg H.size n.toNatClampNeg
  rw [hout] at f2
  have hlt : ∀ a, a ∈ L → a < H.size := fun a ha => by
    obtain ⟨k9, hk9⟩ := va_pl_get (X := X) (f := f) ha
    exact (hP k9 _ hk9).lt
  have hnl : ∀ i : Nat, i < n.toNatClampNeg → H.size + 1 + i ∉ L := fun i _ h => by
    have := hlt _ h
    omega
  have hnm : ∀ a, a ∈ (List.range n.toNatClampNeg).map (fun i => H.size + 1 + i) → a ∉ L := fun a ha h => by
    obtain ⟨i, -, rfl⟩ := List.mem_map.mp ha
    have := hlt _ h
    omega
  have hP0 : va_P D cl (X ++ va_pl L f) F.heap := hP.kept (fun k9 x hx => hold x.1 ((hP k9 x hx).lt))
  have hP1 : va_P D cl ((X ++ va_pl L f) ++ [(H.size, .inl (cA, n.toNatClampNeg, .inr (.inr (.inr (.inr (fun i => if i < n.toNatClampNeg then some (H.size + 1 + i) else none))))))]) F.heap := hP0.app (fun k9 x hx => by
    have h0 : k9 < 1 := (List.getElem?_eq_some_iff.mp hx).1
    rw [show k9 = 0 by omega] at hx
    cases hx
    exact f2)
  have hP2 : va_P D cl (((X ++ va_pl L f) ++ [(H.size, .inl (cA, n.toNatClampNeg, .inr (.inr (.inr (.inr (fun i => if i < n.toNatClampNeg then some (H.size + 1 + i) else none))))))]) ++ ((List.range n.toNatClampNeg).map (fun i => H.size + 1 + i)).map (fun a => (a, .inl (cy, z)))) F.heap := hP1.app (fun k9 x hx => by
    obtain ⟨a, ha, rfl⟩ := List.mem_map.mp (List.mem_of_getElem? hx)
    obtain ⟨i, hi, rfl⟩ := List.mem_map.mp ha
    exact hrow i (List.mem_range.mp hi))
  have hD2 : va_D A (((X ++ va_pl L f) ++ [(H.size, .inl (cA, n.toNatClampNeg, .inr (.inr (.inr (.inr (fun i => if i < n.toNatClampNeg then some (H.size + 1 + i) else none))))))]) ++ ((List.range n.toNatClampNeg).map (fun i => H.size + 1 + i)).map (fun a => (a, .inl (cy, z)))) := by
    have hD1 := hD.push (e := .inl (cA, n.toNatClampNeg, .inr (.inr (.inr (.inr (fun i => if i < n.toNatClampNeg then some (H.size + 1 + i) else none)))))) hP rfl (hA _ hS.1)
    generalize hW1 : (X ++ va_pl L f) ++ [(H.size, .inl (cA, n.toNatClampNeg, .inr (.inr (.inr (.inr (fun i => if i < n.toNatClampNeg then some (H.size + 1 + i) else none))))))] = W1 at hD1 hP1 ⊢
    have hle : ∀ (k9 : Nat) (x : Nat × va_E), W1[k9]? = some x → x.1 ≤ H.size := fun k9 x hx => by
      rw [← hW1] at hx
      by_cases hl : k9 < (X ++ va_pl L f).length
      · rw [List.getElem?_append_left hl] at hx
        exact Nat.le_of_lt ((hP k9 x hx).lt)
      · rw [List.getElem?_append_right (by omega)] at hx
        have h0 : k9 - (X ++ va_pl L f).length < 1 := (List.getElem?_eq_some_iff.mp hx).1
        rw [show k9 - (X ++ va_pl L f).length = 0 by omega] at hx
        cases hx
        exact Nat.le_refl _
    have hr : ∀ (k9 : Nat) (x : Nat × va_E), (((List.range n.toNatClampNeg).map (fun i => H.size + 1 + i)).map (fun a => ((a, .inl (cy, z)) : Nat × va_E)))[k9]? = some x → x.1 = H.size + 1 + k9 := fun k9 x hx => by
      rw [List.getElem?_map, List.getElem?_map] at hx
      by_cases h9 : k9 < n.toNatClampNeg
      · rw [List.getElem?_range h9] at hx
        cases hx
        rfl
      · have hn0 : (List.range n.toNatClampNeg)[k9]? = none := List.getElem?_eq_none (by rw [List.length_range]; omega)
        rw [hn0] at hx
        cases hx
    refine ⟨fun i j x y hi hj hxy => ?_, fun k9 x hx => ?_⟩
    · by_cases h1 : i < W1.length <;> by_cases h2 : j < W1.length
      · rw [List.getElem?_append_left h1] at hi
        rw [List.getElem?_append_left h2] at hj
        exact hD1.1 i j x y hi hj hxy
      · rw [List.getElem?_append_left h1] at hi
        rw [List.getElem?_append_right (by omega)] at hj
        have := hle _ _ hi
        have := hr _ _ hj
        omega
      · rw [List.getElem?_append_right (by omega)] at hi
        rw [List.getElem?_append_left h2] at hj
        have := hle _ _ hj
        have := hr _ _ hi
        omega
      · rw [List.getElem?_append_right (by omega)] at hi hj
        have := hr _ _ hi
        have := hr _ _ hj
        omega
    · by_cases h1 : k9 < W1.length
      · rw [List.getElem?_append_left h1] at hx
        exact hD1.2 k9 x hx
      · rw [List.getElem?_append_right (by omega)] at hx
        have := hr _ _ hx
        exact hA _ (by have := hS.1; omega)
  have hAr : ArrOfT s cA (.array ty) := fun N9 z9 => by
    obtain ⟨-, k9, hk9, cm9, hkk9⟩ := (hO 0 0 0).1
    exact ⟨(fun q hq => by cases hq), k9, hk9, cm9, hkk9⟩
  have hK2 : va_K D cl (tys ++ [(cA, .array ty)]) s := ⟨hK.1, fun k9 x hx => by
    by_cases hl : k9 < tys.length
    · rw [List.getElem?_append_left hl] at hx
      exact hK.2 k9 x hx
    · rw [List.getElem?_append_right (by omega)] at hx
      have h0 : k9 - tys.length < 1 := (List.getElem?_eq_some_iff.mp hx).1
      rw [show k9 - tys.length = 0 by omega] at hx
      cases hx
      exact ⟨hAr, fA⟩⟩
  obtain ⟨t, a1, b1⟩ := kk H.size (fun i => H.size + 1 + i) cA F.heap (fun i j _ _ h => by have h9 : H.size + 1 + i = H.size + 1 + j := h; omega) hnl hK2 (by rw [← vr_rows hnm]; exact vr_lay hP2) (by rw [← vr_rows hnm]; exact vr_layD hD2) ⟨by rw [f1]; have := hS.1; omega, fun x h1 h2 => (hold x (Nat.lt_of_lt_of_le h1 hS.1)).trans (hS.2.1 x h1 h2), hS.2.2⟩ F rfl X'
  refine ⟨t, step t ?_, b1⟩
  have e : T.heap.size = H.size := by rw [hT]
  rw [e]
  exact a1
end VGM
/-! ===== END ===== -/

/-! ===== BEGIN printed: names, fields, word lists, decode rows ===== -/
def RX0 : String := "OrderMover$Base"
def TX0 : u_T := fun k => match k with
  | 0 => ("OrderMover$Base", "order", "LOrderMover$TermOrder;", true)
  | 1 => ("OrderMover$Base", "members", "LOrderMover$Members;", true)
  | 2 => ("OrderMover$Base", "span", "LOrderMover$Span;", true)
  | 3 => ("OrderMover$Base", "stairXs", "[I", true)
  | 4 => ("OrderMover$Base", "stairYs", "[I", true)
  | 5 => ("OrderMover$Base", "vectors", "[[I", true)
  | 6 => ("OrderMover$Base", "border", "LOrderMover$Border;", true)
  | 7 => ("OrderMover$Base", "rest", "[I", true)
  | _ => ("OrderMover$Base", "share", "[I", true)
def tyX0 : Nat → FieldType := fun k => match k with
  | 0 => .object "OrderMover$TermOrder"
  | 1 => .object "OrderMover$Members"
  | 2 => .object "OrderMover$Span"
  | 3 => .array .int
  | 4 => .array .int
  | 5 => .array (.array .int)
  | 6 => .object "OrderMover$Border"
  | 7 => .array .int
  | _ => .array .int
abbrev wsX00 : List Cond := u_ws RX0 TX0 9
theorem nmX0 : ∀ a, a < 9 → ∀ b, b < 9 → a ≠ b → (TX0 a).2.1 ≠ (TX0 b).2.1 := by decide +kernel
theorem tyX0_ok : ∀ k, k < 9 → parseFieldDescriptor (TX0 k).2.2.1 = some (tyX0 k) := by decide +kernel
abbrev cX0_init : ByteArray := prog_2_method_1_code
def yX0_init : MethodName := ⟨RX0, "<init>", "()V"⟩
abbrev cX0_walk : ByteArray := prog_2_method_2_code
def yX0_walk : MethodName := ⟨RX0, "walk", "(LOrderMover$Quotient;III)V"⟩
abbrev cX0_visit : ByteArray := prog_2_method_3_code
def yX0_visit : MethodName := ⟨RX0, "visit", "(LOrderMover$Quotient;I)V"⟩
abbrev cX0_stairAt : ByteArray := prog_2_method_4_code
def yX0_stairAt : MethodName := ⟨RX0, "stairAt", "(II)I"⟩
abbrev cX0_greatestStairSum : ByteArray := prog_2_method_5_code
def yX0_greatestStairSum : MethodName := ⟨RX0, "greatestStairSum", "()I"⟩
def RX1 : String := "OrderMover$Border"
def TX1 : u_T := fun k => match k with
  | 0 => ("OrderMover$Border", "howMany", "I", false)
  | 1 => ("OrderMover$Border", "xs", "[I", true)
  | 2 => ("OrderMover$Border", "ys", "[I", true)
  | 3 => ("OrderMover$Border", "below", "[I", true)
  | 4 => ("OrderMover$Border", "unknowns", "[I", true)
  | _ => ("OrderMover$Border", "passed", "[Z", true)
def tyX1 : Nat → FieldType := fun k => match k with
  | 0 => .int
  | 1 => .array .int
  | 2 => .array .int
  | 3 => .array .int
  | 4 => .array .int
  | _ => .array .boolean
abbrev wsX10 : List Cond := u_ws RX1 TX1 6
theorem nmX1 : ∀ a, a < 6 → ∀ b, b < 6 → a ≠ b → (TX1 a).2.1 ≠ (TX1 b).2.1 := by decide +kernel
theorem tyX1_ok : ∀ k, k < 6 → parseFieldDescriptor (TX1 k).2.2.1 = some (tyX1 k) := by decide +kernel
abbrev cX1_init : ByteArray := prog_3_method_1_code
def yX1_init : MethodName := ⟨RX1, "<init>", "()V"⟩
abbrev cX1_begin : ByteArray := prog_3_method_2_code
def yX1_begin : MethodName := ⟨RX1, "begin", "()V"⟩
abbrev cX1_bring : ByteArray := prog_3_method_3_code
def yX1_bring : MethodName := ⟨RX1, "bring", "(IIII)V"⟩
abbrev cX1_has : ByteArray := prog_3_method_4_code
def yX1_has : MethodName := ⟨RX1, "has", "(II)Z"⟩
abbrev cX1_passLeast : ByteArray := prog_3_method_5_code
def yX1_passLeast : MethodName := ⟨RX1, "passLeast", "(LOrderMover$TermOrder;)I"⟩
def RX2 : String := "OrderMover$Ideal"
def TX2 : u_T := fun k => match k with
  | 0 => ("OrderMover$Ideal", "quotient", "LOrderMover$Quotient;", true)
  | 1 => ("OrderMover$Ideal", "leasts", "[LOrderMover$Least;", true)
  | 2 => ("OrderMover$Ideal", "rootXs", "[I", true)
  | 3 => ("OrderMover$Ideal", "rootYs", "[I", true)
  | 4 => ("OrderMover$Ideal", "bases", "[LOrderMover$Base;", true)
  | 5 => ("OrderMover$Ideal", "walked", "[Z", true)
  | 6 => ("OrderMover$Ideal", "current", "Z", false)
  | 7 => ("OrderMover$Ideal", "roots", "I", false)
  | _ => ("OrderMover$Ideal", "partial", "[I", true)
def tyX2 : Nat → FieldType := fun k => match k with
  | 0 => .object "OrderMover$Quotient"
  | 1 => .array (.object "OrderMover$Least")
  | 2 => .array .int
  | 3 => .array .int
  | 4 => .array (.object "OrderMover$Base")
  | 5 => .array .boolean
  | 6 => .boolean
  | 7 => .int
  | _ => .array .int
abbrev wsX20 : List Cond := u_ws RX2 TX2 9
theorem nmX2 : ∀ a, a < 9 → ∀ b, b < 9 → a ≠ b → (TX2 a).2.1 ≠ (TX2 b).2.1 := by decide +kernel
theorem tyX2_ok : ∀ k, k < 9 → parseFieldDescriptor (TX2 k).2.2.1 = some (tyX2 k) := by decide +kernel
abbrev cX2_init : ByteArray := prog_4_method_1_code
def yX2_init : MethodName := ⟨RX2, "<init>", "()V"⟩
abbrev cX2_forget : ByteArray := prog_4_method_2_code
def yX2_forget : MethodName := ⟨RX2, "forget", "()V"⟩
abbrev cX2_bringUpToDate : ByteArray := prog_4_method_3_code
def yX2_bringUpToDate : MethodName := ⟨RX2, "bringUpToDate", "(LOrderMover$Setting;)V"⟩
abbrev cX2_baseOf : ByteArray := prog_4_method_4_code
def yX2_baseOf : MethodName := ⟨RX2, "baseOf", "(ILOrderMover$Setting;)LOrderMover$Base;"⟩
abbrev cX2_vectorOfTerm : ByteArray := prog_4_method_5_code
def yX2_vectorOfTerm : MethodName := ⟨RX2, "vectorOfTerm", "(II[I)V"⟩
abbrev cX2_isPlain : ByteArray := prog_4_method_6_code
def yX2_isPlain : MethodName := ⟨RX2, "isPlain", "()Z"⟩
abbrev cX2_isRadical : ByteArray := prog_4_method_7_code
def yX2_isRadical : MethodName := ⟨RX2, "isRadical", "()Z"⟩
abbrev cX2_countRoots : ByteArray := prog_4_method_8_code
def yX2_countRoots : MethodName := ⟨RX2, "countRoots", "(LOrderMover$Setting;)I"⟩
abbrev cX2_findRootsAt : ByteArray := prog_4_method_9_code
def yX2_findRootsAt : MethodName := ⟨RX2, "findRootsAt", "(LOrderMover$Setting;I)V"⟩
def RX3 : String := "OrderMover$Least"
def TX3 : u_T := fun k => match k with
  | 0 => ("OrderMover$Least", "high", "I", false)
  | 1 => ("OrderMover$Least", "numbers", "[I", true)
  | 2 => ("OrderMover$Least", "raised", "[I", true)
  | 3 => ("OrderMover$Least", "p", "I", false)
  | 4 => ("OrderMover$Least", "square", "[I", true)
  | 5 => ("OrderMover$Least", "one", "[I", true)
  | _ => ("OrderMover$Least", "other", "[I", true)
def tyX3 : Nat → FieldType := fun k => match k with
  | 0 => .int
  | 1 => .array .int
  | 2 => .array .int
  | 3 => .int
  | 4 => .array .int
  | 5 => .array .int
  | _ => .array .int
abbrev wsX30 : List Cond := u_ws RX3 TX3 7
theorem nmX3 : ∀ a, a < 7 → ∀ b, b < 7 → a ≠ b → (TX3 a).2.1 ≠ (TX3 b).2.1 := by decide +kernel
theorem tyX3_ok : ∀ k, k < 7 → parseFieldDescriptor (TX3 k).2.2.1 = some (tyX3 k) := by decide +kernel
abbrev cX3_init : ByteArray := prog_5_method_1_code
def yX3_init : MethodName := ⟨RX3, "<init>", "()V"⟩
abbrev cX3_readFrom : ByteArray := prog_5_method_2_code
def yX3_readFrom : MethodName := ⟨RX3, "readFrom", "(LOrderMover$Members;II)V"⟩
abbrev cX3_isZeroAt : ByteArray := prog_5_method_3_code
def yX3_isZeroAt : MethodName := ⟨RX3, "isZeroAt", "(I)Z"⟩
abbrev cX3_raise : ByteArray := prog_5_method_4_code
def yX3_raise : MethodName := ⟨RX3, "raise", "(I)V"⟩
abbrev cX3_squareRaised : ByteArray := prog_5_method_5_code
def yX3_squareRaised : MethodName := ⟨RX3, "squareRaised", "()V"⟩
abbrev cX3_shiftRaised : ByteArray := prog_5_method_6_code
def yX3_shiftRaised : MethodName := ⟨RX3, "shiftRaised", "()V"⟩
abbrev cX3_hasNoFactorTwice : ByteArray := prog_5_method_7_code
def yX3_hasNoFactorTwice : MethodName := ⟨RX3, "hasNoFactorTwice", "()Z"⟩
abbrev cX3_divideOut : ByteArray := prog_5_method_8_code
def yX3_divideOut : MethodName := ⟨RX3, "divideOut", "([II[II)V"⟩
def RX4 : String := "OrderMover$Members"
def TX4 : u_T := fun k => match k with
  | 0 => ("OrderMover$Members", "howMany", "I", false)
  | 1 => ("OrderMover$Members", "xs", "[I", true)
  | 2 => ("OrderMover$Members", "ys", "[I", true)
  | _ => ("OrderMover$Members", "tails", "[[I", true)
def tyX4 : Nat → FieldType := fun k => match k with
  | 0 => .int
  | 1 => .array .int
  | 2 => .array .int
  | _ => .array (.array .int)
abbrev wsX40 : List Cond := u_ws RX4 TX4 4
theorem nmX4 : ∀ a, a < 4 → ∀ b, b < 4 → a ≠ b → (TX4 a).2.1 ≠ (TX4 b).2.1 := by decide +kernel
theorem tyX4_ok : ∀ k, k < 4 → parseFieldDescriptor (TX4 k).2.2.1 = some (tyX4 k) := by decide +kernel
abbrev cX4_init : ByteArray := prog_6_method_1_code
def yX4_init : MethodName := ⟨RX4, "<init>", "()V"⟩
abbrev cX4_bring : ByteArray := prog_6_method_2_code
def yX4_bring : MethodName := ⟨RX4, "bring", "(II[II)V"⟩
abbrev cX4_leadTo : ByteArray := prog_6_method_3_code
def yX4_leadTo : MethodName := ⟨RX4, "leadTo", "(II)Z"⟩
abbrev cX4_greatestSum : ByteArray := prog_6_method_4_code
def yX4_greatestSum : MethodName := ⟨RX4, "greatestSum", "()I"⟩
abbrev cX4_countTerms : ByteArray := prog_6_method_5_code
def yX4_countTerms : MethodName := ⟨RX4, "countTerms", "(I)I"⟩
abbrev cX4_moveToField : ByteArray := prog_6_method_6_code
def yX4_moveToField : MethodName := ⟨RX4, "moveToField", "(I)V"⟩
abbrev cX4_copyFrom : ByteArray := prog_6_method_7_code
def yX4_copyFrom : MethodName := ⟨RX4, "copyFrom", "(LOrderMover$Members;)V"⟩
abbrev cX4_isAs : ByteArray := prog_6_method_8_code
def yX4_isAs : MethodName := ⟨RX4, "isAs", "(LOrderMover$Members;)Z"⟩
abbrev cX4_hasTail : ByteArray := prog_6_method_9_code
def yX4_hasTail : MethodName := ⟨RX4, "hasTail", "(I[I)Z"⟩
def RX5 : String := "OrderMover$Polynomial"
def TX5 : u_T := fun k => match k with
  | 0 => ("OrderMover$Polynomial", "howMany", "I", false)
  | 1 => ("OrderMover$Polynomial", "numbers", "[I", true)
  | 2 => ("OrderMover$Polynomial", "xs", "[I", true)
  | _ => ("OrderMover$Polynomial", "ys", "[I", true)
def tyX5 : Nat → FieldType := fun k => match k with
  | 0 => .int
  | 1 => .array .int
  | 2 => .array .int
  | _ => .array .int
abbrev wsX50 : List Cond := u_ws RX5 TX5 4
theorem nmX5 : ∀ a, a < 4 → ∀ b, b < 4 → a ≠ b → (TX5 a).2.1 ≠ (TX5 b).2.1 := by decide +kernel
theorem tyX5_ok : ∀ k, k < 4 → parseFieldDescriptor (TX5 k).2.2.1 = some (tyX5 k) := by decide +kernel
abbrev cX5_init : ByteArray := prog_7_method_1_code
def yX5_init : MethodName := ⟨RX5, "<init>", "(I)V"⟩
abbrev cX5_empty : ByteArray := prog_7_method_2_code
def yX5_empty : MethodName := ⟨RX5, "empty", "()V"⟩
abbrev cX5_copyFrom : ByteArray := prog_7_method_3_code
def yX5_copyFrom : MethodName := ⟨RX5, "copyFrom", "(LOrderMover$Polynomial;)V"⟩
abbrev cX5_bring : ByteArray := prog_7_method_4_code
def yX5_bring : MethodName := ⟨RX5, "bring", "(IIII)V"⟩
abbrev cX5_bringAll : ByteArray := prog_7_method_5_code
def yX5_bringAll : MethodName := ⟨RX5, "bringAll", "(LOrderMover$Polynomial;II)V"⟩
abbrev cX5_insert : ByteArray := prog_7_method_6_code
def yX5_insert : MethodName := ⟨RX5, "insert", "(IIII)V"⟩
abbrev cX5_takeZerosAway : ByteArray := prog_7_method_7_code
def yX5_takeZerosAway : MethodName := ⟨RX5, "takeZerosAway", "()V"⟩
abbrev cX5_moveToField : ByteArray := prog_7_method_8_code
def yX5_moveToField : MethodName := ⟨RX5, "moveToField", "(I)V"⟩
abbrev cX5_canRise : ByteArray := prog_7_method_9_code
def yX5_canRise : MethodName := ⟨RX5, "canRise", "(II)Z"⟩
abbrev cX5_rise : ByteArray := prog_7_method_10_code
def yX5_rise : MethodName := ⟨RX5, "rise", "(II)V"⟩
abbrev cX5_greatestSum : ByteArray := prog_7_method_11_code
def yX5_greatestSum : MethodName := ⟨RX5, "greatestSum", "()J"⟩
abbrev cX5_canCompare : ByteArray := prog_7_method_12_code
def yX5_canCompare : MethodName := ⟨RX5, "canCompare", "(LOrderMover$TermOrder;)Z"⟩
abbrev cX5_greatestIn : ByteArray := prog_7_method_13_code
def yX5_greatestIn : MethodName := ⟨RX5, "greatestIn", "(LOrderMover$TermOrder;)I"⟩
def RX6 : String := "OrderMover$Quotient"
def TX6 : u_T := fun k => match k with
  | 0 => ("OrderMover$Quotient", "p", "I", false)
  | 1 => ("OrderMover$Quotient", "width", "I", false)
  | 2 => ("OrderMover$Quotient", "height", "I", false)
  | 3 => ("OrderMover$Quotient", "forms", "[[I", true)
  | _ => ("OrderMover$Quotient", "moved", "[I", true)
def tyX6 : Nat → FieldType := fun k => match k with
  | 0 => .int
  | 1 => .int
  | 2 => .int
  | 3 => .array (.array .int)
  | _ => .array .int
abbrev wsX60 : List Cond := u_ws RX6 TX6 5
theorem nmX6 : ∀ a, a < 5 → ∀ b, b < 5 → a ≠ b → (TX6 a).2.1 ≠ (TX6 b).2.1 := by decide +kernel
theorem tyX6_ok : ∀ k, k < 5 → parseFieldDescriptor (TX6 k).2.2.1 = some (tyX6 k) := by decide +kernel
abbrev cX6_init : ByteArray := prog_8_method_1_code
def yX6_init : MethodName := ⟨RX6, "<init>", "()V"⟩
abbrev cX6_build : ByteArray := prog_8_method_2_code
def yX6_build : MethodName := ⟨RX6, "build", "(LOrderMover$Setting;)V"⟩
abbrev cX6_fillForm : ByteArray := prog_8_method_3_code
def yX6_fillForm : MethodName := ⟨RX6, "fillForm", "(LOrderMover$Setting;II)V"⟩
abbrev cX6_bringTail : ByteArray := prog_8_method_4_code
def yX6_bringTail : MethodName := ⟨RX6, "bringTail", "(LOrderMover$Setting;III[I)V"⟩
abbrev cX6_formAt : ByteArray := prog_8_method_5_code
def yX6_formAt : MethodName := ⟨RX6, "formAt", "(II)[I"⟩
abbrev cX6_toOne : ByteArray := prog_8_method_6_code
def yX6_toOne : MethodName := ⟨RX6, "toOne", "([I)V"⟩
abbrev cX6_multiply : ByteArray := prog_8_method_7_code
def yX6_multiply : MethodName := ⟨RX6, "multiply", "(I[I[I)V"⟩
abbrev cX6_multiplyByPolynomial : ByteArray := prog_8_method_8_code
def yX6_multiplyByPolynomial : MethodName := ⟨RX6, "multiplyByPolynomial", "(I[I[I[I)V"⟩
def RX7 : String := "OrderMover$Setting"
def TX7 : u_T := fun k => match k with
  | 0 => ("OrderMover$Setting", "p", "I", false)
  | 1 => ("OrderMover$Setting", "a", "I", false)
  | 2 => ("OrderMover$Setting", "b", "I", false)
  | 3 => ("OrderMover$Setting", "u", "I", false)
  | 4 => ("OrderMover$Setting", "v", "I", false)
  | 5 => ("OrderMover$Setting", "first", "[I", true)
  | _ => ("OrderMover$Setting", "second", "[I", true)
def tyX7 : Nat → FieldType := fun k => match k with
  | 0 => .int
  | 1 => .int
  | 2 => .int
  | 3 => .int
  | 4 => .int
  | 5 => .array .int
  | _ => .array .int
abbrev wsX70 : List Cond := u_ws RX7 TX7 7
theorem nmX7 : ∀ a, a < 7 → ∀ b, b < 7 → a ≠ b → (TX7 a).2.1 ≠ (TX7 b).2.1 := by decide +kernel
theorem tyX7_ok : ∀ k, k < 7 → parseFieldDescriptor (TX7 k).2.2.1 = some (tyX7 k) := by decide +kernel
abbrev cX7_init : ByteArray := prog_9_method_1_code
def yX7_init : MethodName := ⟨RX7, "<init>", "()V"⟩
abbrev cX7_dimension : ByteArray := prog_9_method_2_code
def yX7_dimension : MethodName := ⟨RX7, "dimension", "()I"⟩
abbrev cX7_power : ByteArray := prog_9_method_3_code
def yX7_power : MethodName := ⟨RX7, "power", "(I)I"⟩
abbrev cX7_coefficients : ByteArray := prog_9_method_4_code
def yX7_coefficients : MethodName := ⟨RX7, "coefficients", "(I)[I"⟩
abbrev cX7_hasCoefficient : ByteArray := prog_9_method_5_code
def yX7_hasCoefficient : MethodName := ⟨RX7, "hasCoefficient", "(III)Z"⟩
abbrev cX7_coefficient : ByteArray := prog_9_method_6_code
def yX7_coefficient : MethodName := ⟨RX7, "coefficient", "(III)I"⟩
abbrev cX7_change : ByteArray := prog_9_method_7_code
def yX7_change : MethodName := ⟨RX7, "change", "(IIII)V"⟩
abbrev cX7_begin : ByteArray := prog_9_method_8_code
def yX7_begin : MethodName := ⟨RX7, "begin", "(II)V"⟩
abbrev cX7_moveToField : ByteArray := prog_9_method_9_code
def yX7_moveToField : MethodName := ⟨RX7, "moveToField", "(I)V"⟩
abbrev cX7_scatter : ByteArray := prog_9_method_10_code
def yX7_scatter : MethodName := ⟨RX7, "scatter", "(II)I"⟩
abbrev cX7_isZeroAt : ByteArray := prog_9_method_11_code
def yX7_isZeroAt : MethodName := ⟨RX7, "isZeroAt", "(III)Z"⟩
abbrev cX7_copyFrom : ByteArray := prog_9_method_12_code
def yX7_copyFrom : MethodName := ⟨RX7, "copyFrom", "(LOrderMover$Setting;)V"⟩
def RX8 : String := "OrderMover$Slot"
def TX8 : u_T := fun k => match k with
  | 0 => ("OrderMover$Slot", "holds", "I", false)
  | 1 => ("OrderMover$Slot", "polynomial", "LOrderMover$Polynomial;", true)
  | 2 => ("OrderMover$Slot", "order", "LOrderMover$TermOrder;", true)
  | _ => ("OrderMover$Slot", "members", "LOrderMover$Members;", true)
def tyX8 : Nat → FieldType := fun k => match k with
  | 0 => .int
  | 1 => .object "OrderMover$Polynomial"
  | 2 => .object "OrderMover$TermOrder"
  | _ => .object "OrderMover$Members"
abbrev wsX80 : List Cond := u_ws RX8 TX8 4
theorem nmX8 : ∀ a, a < 4 → ∀ b, b < 4 → a ≠ b → (TX8 a).2.1 ≠ (TX8 b).2.1 := by decide +kernel
theorem tyX8_ok : ∀ k, k < 4 → parseFieldDescriptor (TX8 k).2.2.1 = some (tyX8 k) := by decide +kernel
abbrev cX8_init : ByteArray := prog_10_method_1_code
def yX8_init : MethodName := ⟨RX8, "<init>", "()V"⟩
abbrev cX8_hold : ByteArray := prog_10_method_2_code
def yX8_hold : MethodName := ⟨RX8, "hold", "(LOrderMover$Base;)V"⟩
abbrev cX8_findWanting : ByteArray := prog_10_method_3_code
def yX8_findWanting : MethodName := ⟨RX8, "findWanting", "(I)I"⟩
def RX9 : String := "OrderMover$Span"
def TX9 : u_T := fun k => match k with
  | 0 => ("OrderMover$Span", "howMany", "I", false)
  | 1 => ("OrderMover$Span", "p", "I", false)
  | 2 => ("OrderMover$Span", "rows", "[[I", true)
  | 3 => ("OrderMover$Span", "shares", "[[I", true)
  | _ => ("OrderMover$Span", "pivots", "[I", true)
def tyX9 : Nat → FieldType := fun k => match k with
  | 0 => .int
  | 1 => .int
  | 2 => .array (.array .int)
  | 3 => .array (.array .int)
  | _ => .array .int
abbrev wsX90 : List Cond := u_ws RX9 TX9 5
theorem nmX9 : ∀ a, a < 5 → ∀ b, b < 5 → a ≠ b → (TX9 a).2.1 ≠ (TX9 b).2.1 := by decide +kernel
theorem tyX9_ok : ∀ k, k < 5 → parseFieldDescriptor (TX9 k).2.2.1 = some (tyX9 k) := by decide +kernel
abbrev cX9_init : ByteArray := prog_11_method_1_code
def yX9_init : MethodName := ⟨RX9, "<init>", "()V"⟩
abbrev cX9_begin : ByteArray := prog_11_method_2_code
def yX9_begin : MethodName := ⟨RX9, "begin", "(I)V"⟩
abbrev cX9_express : ByteArray := prog_11_method_3_code
def yX9_express : MethodName := ⟨RX9, "express", "([I[I)V"⟩
abbrev cX9_absorb : ByteArray := prog_11_method_4_code
def yX9_absorb : MethodName := ⟨RX9, "absorb", "([I[I)V"⟩
def RX10 : String := "OrderMover$TermOrder"
def TX10 : u_T := fun k => match k with
  | 0 => ("OrderMover$TermOrder", "kind", "I", false)
  | 1 => ("OrderMover$TermOrder", "u", "I", false)
  | _ => ("OrderMover$TermOrder", "v", "I", false)
def tyX10 : Nat → FieldType := fun k => match k with
  | 0 => .int
  | 1 => .int
  | _ => .int
abbrev wsX100 : List Cond := u_ws RX10 TX10 3
theorem nmX10 : ∀ a, a < 3 → ∀ b, b < 3 → a ≠ b → (TX10 a).2.1 ≠ (TX10 b).2.1 := by decide +kernel
theorem tyX10_ok : ∀ k, k < 3 → parseFieldDescriptor (TX10 k).2.2.1 = some (tyX10 k) := by decide +kernel
abbrev cX10_init : ByteArray := prog_12_method_1_code
def yX10_init : MethodName := ⟨RX10, "<init>", "()V"⟩
abbrev cX10_become : ByteArray := prog_12_method_2_code
def yX10_become : MethodName := ⟨RX10, "become", "(III)V"⟩
abbrev cX10_weight : ByteArray := prog_12_method_3_code
def yX10_weight : MethodName := ⟨RX10, "weight", "(II)J"⟩
abbrev cX10_isLess : ByteArray := prog_12_method_4_code
def yX10_isLess : MethodName := ⟨RX10, "isLess", "(IIII)Z"⟩
def RX11 : String := "OrderMover"
def TX11 : u_T := fun k => match k with
  | 0 => ("OrderMover", "setting", "LOrderMover$Setting;", true)
  | 1 => ("OrderMover", "images", "[LOrderMover$Setting;", true)
  | 2 => ("OrderMover", "imaged", "[Z", true)
  | 3 => ("OrderMover", "slots", "[LOrderMover$Slot;", true)
  | 4 => ("OrderMover", "ideal", "LOrderMover$Ideal;", true)
  | 5 => ("OrderMover", "spare", "LOrderMover$Base;", true)
  | 6 => ("OrderMover", "asked", "LOrderMover$TermOrder;", true)
  | 7 => ("OrderMover", "scratch", "LOrderMover$Polynomial;", true)
  | 8 => ("OrderMover", "vector", "[I", true)
  | 9 => ("OrderMover", "sum", "[I", true)
  | _ => ("OrderMover", "form", "[I", true)
def tyX11 : Nat → FieldType := fun k => match k with
  | 0 => .object "OrderMover$Setting"
  | 1 => .array (.object "OrderMover$Setting")
  | 2 => .array .boolean
  | 3 => .array (.object "OrderMover$Slot")
  | 4 => .object "OrderMover$Ideal"
  | 5 => .object "OrderMover$Base"
  | 6 => .object "OrderMover$TermOrder"
  | 7 => .object "OrderMover$Polynomial"
  | 8 => .array .int
  | 9 => .array .int
  | _ => .array .int
abbrev wsX110 : List Cond := u_ws RX11 TX11 11
theorem nmX11 : ∀ a, a < 11 → ∀ b, b < 11 → a ≠ b → (TX11 a).2.1 ≠ (TX11 b).2.1 := by decide +kernel
theorem tyX11_ok : ∀ k, k < 11 → parseFieldDescriptor (TX11 k).2.2.1 = some (tyX11 k) := by decide +kernel
abbrev cX11_init : ByteArray := prog_1_method_1_code
def yX11_init : MethodName := ⟨RX11, "<init>", "()V"⟩
abbrev cX11_field : ByteArray := prog_1_method_2_code
def yX11_field : MethodName := ⟨RX11, "field", "(I)I"⟩
abbrev cX11_system : ByteArray := prog_1_method_3_code
def yX11_system : MethodName := ⟨RX11, "system", "(II)I"⟩
abbrev cX11_put : ByteArray := prog_1_method_4_code
def yX11_put : MethodName := ⟨RX11, "put", "(IIII)I"⟩
abbrev cX11_get : ByteArray := prog_1_method_5_code
def yX11_get : MethodName := ⟨RX11, "get", "(III)I"⟩
abbrev cX11_weights : ByteArray := prog_1_method_6_code
def yX11_weights : MethodName := ⟨RX11, "weights", "(II)I"⟩
abbrev cX11_drift : ByteArray := prog_1_method_7_code
def yX11_drift : MethodName := ⟨RX11, "drift", "(I)I"⟩
abbrev cX11_count : ByteArray := prog_1_method_8_code
def yX11_count : MethodName := ⟨RX11, "count", "(I)I"⟩
abbrev cX11_base : ByteArray := prog_1_method_9_code
def yX11_base : MethodName := ⟨RX11, "base", "(II)I"⟩
abbrev cX11_member : ByteArray := prog_1_method_10_code
def yX11_member : MethodName := ⟨RX11, "member", "(III)I"⟩
abbrev cX11_tail : ByteArray := prog_1_method_11_code
def yX11_tail : MethodName := ⟨RX11, "tail", "(III)I"⟩
abbrev cX11_stair : ByteArray := prog_1_method_12_code
def yX11_stair : MethodName := ⟨RX11, "stair", "(III)I"⟩
abbrev cX11_normal : ByteArray := prog_1_method_13_code
def yX11_normal : MethodName := ⟨RX11, "normal", "(IIII)I"⟩
abbrev cX11_table : ByteArray := prog_1_method_14_code
def yX11_table : MethodName := ⟨RX11, "table", "(IIII)I"⟩
abbrev cX11_place : ByteArray := prog_1_method_15_code
def yX11_place : MethodName := ⟨RX11, "place", "(III)I"⟩
abbrev cX11_least : ByteArray := prog_1_method_16_code
def yX11_least : MethodName := ⟨RX11, "least", "(II)I"⟩
abbrev cX11_root : ByteArray := prog_1_method_17_code
def yX11_root : MethodName := ⟨RX11, "root", "(II)I"⟩
abbrev cX11_poly : ByteArray := prog_1_method_18_code
def yX11_poly : MethodName := ⟨RX11, "poly", "(I)I"⟩
abbrev cX11_keepBase : ByteArray := prog_1_method_19_code
def yX11_keepBase : MethodName := ⟨RX11, "keepBase", "(II)I"⟩
abbrev cX11_drop : ByteArray := prog_1_method_20_code
def yX11_drop : MethodName := ⟨RX11, "drop", "(I)I"⟩
abbrev cX11_add : ByteArray := prog_1_method_21_code
def yX11_add : MethodName := ⟨RX11, "add", "(IIII)I"⟩
abbrev cX11_term : ByteArray := prog_1_method_22_code
def yX11_term : MethodName := ⟨RX11, "term", "(III)I"⟩
abbrev cX11_size : ByteArray := prog_1_method_23_code
def yX11_size : MethodName := ⟨RX11, "size", "(I)I"⟩
abbrev cX11_times : ByteArray := prog_1_method_24_code
def yX11_times : MethodName := ⟨RX11, "times", "(III)I"⟩
abbrev cX11_plus : ByteArray := prog_1_method_25_code
def yX11_plus : MethodName := ⟨RX11, "plus", "(III)I"⟩
abbrev cX11_degree : ByteArray := prog_1_method_26_code
def yX11_degree : MethodName := ⟨RX11, "degree", "(I)I"⟩
abbrev cX11_leads : ByteArray := prog_1_method_27_code
def yX11_leads : MethodName := ⟨RX11, "leads", "(II)I"⟩
abbrev cX11_reduce : ByteArray := prog_1_method_28_code
def yX11_reduce : MethodName := ⟨RX11, "reduce", "(II)I"⟩
abbrev cX11_belongs : ByteArray := prog_1_method_29_code
def yX11_belongs : MethodName := ⟨RX11, "belongs", "(I)I"⟩
abbrev cX11_stands : ByteArray := prog_1_method_30_code
def yX11_stands : MethodName := ⟨RX11, "stands", "(I)I"⟩
abbrev cX11_kept : ByteArray := prog_1_method_31_code
def yX11_kept : MethodName := ⟨RX11, "kept", "(II)I"⟩
abbrev cX11_image : ByteArray := prog_1_method_32_code
def yX11_image : MethodName := ⟨RX11, "image", "(I)I"⟩
abbrev cX11_goBack : ByteArray := prog_1_method_33_code
def yX11_goBack : MethodName := ⟨RX11, "goBack", "(I)I"⟩
abbrev cX11_currentIdeal : ByteArray := prog_1_method_34_code
def yX11_currentIdeal : MethodName := ⟨RX11, "currentIdeal", "()LOrderMover$Ideal;"⟩
abbrev cX11_baseIn : ByteArray := prog_1_method_35_code
def yX11_baseIn : MethodName := ⟨RX11, "baseIn", "(I)LOrderMover$Base;"⟩
abbrev cX11_moveSlotsToField : ByteArray := prog_1_method_36_code
def yX11_moveSlotsToField : MethodName := ⟨RX11, "moveSlotsToField", "()V"⟩
abbrev cX11_countSlots : ByteArray := prog_1_method_37_code
def yX11_countSlots : MethodName := ⟨RX11, "countSlots", "(I)I"⟩
abbrev cX11_settle : ByteArray := prog_1_method_38_code
def yX11_settle : MethodName := ⟨RX11, "settle", "(I)I"⟩
abbrev cX11_sumVectors : ByteArray := prog_1_method_39_code
def yX11_sumVectors : MethodName := ⟨RX11, "sumVectors", "(LOrderMover$Polynomial;)V"⟩
abbrev cX11_isNumber : ByteArray := prog_1_method_40_code
def yX11_isNumber : MethodName := ⟨RX11, "isNumber", "(I)Z"⟩
abbrev cX11_isStair : ByteArray := prog_1_method_41_code
def yX11_isStair : MethodName := ⟨RX11, "isStair", "(I)Z"⟩
abbrev cX11_isOrder : ByteArray := prog_1_method_42_code
def yX11_isOrder : MethodName := ⟨RX11, "isOrder", "(I)Z"⟩
abbrev cX11_isSlot : ByteArray := prog_1_method_43_code
def yX11_isSlot : MethodName := ⟨RX11, "isSlot", "(I)Z"⟩
abbrev cX11_isUnknown : ByteArray := prog_1_method_44_code
def yX11_isUnknown : MethodName := ⟨RX11, "isUnknown", "(I)Z"⟩
abbrev cX11_isWithin : ByteArray := prog_1_method_45_code
def yX11_isWithin : MethodName := ⟨RX11, "isWithin", "(III)Z"⟩
abbrev cX11_asAnswer : ByteArray := prog_1_method_46_code
def yX11_asAnswer : MethodName := ⟨RX11, "asAnswer", "(Z)I"⟩
abbrev cX11_isPrimeOfRange : ByteArray := prog_1_method_47_code
def yX11_isPrimeOfRange : MethodName := ⟨RX11, "isPrimeOfRange", "(I)Z"⟩
abbrev cX11_leftOver : ByteArray := prog_1_method_48_code
def yX11_leftOver : MethodName := ⟨RX11, "leftOver", "(II)I"⟩
abbrev cX11_inverse : ByteArray := prog_1_method_49_code
def yX11_inverse : MethodName := ⟨RX11, "inverse", "(II)I"⟩
abbrev cX11_clear : ByteArray := prog_1_method_50_code
def yX11_clear : MethodName := ⟨RX11, "clear", "([I)V"⟩
abbrev cX11_firstNotZero : ByteArray := prog_1_method_51_code
def yX11_firstNotZero : MethodName := ⟨RX11, "firstNotZero", "([I)I"⟩
abbrev cX11_highestNotZero : ByteArray := prog_1_method_52_code
def yX11_highestNotZero : MethodName := ⟨RX11, "highestNotZero", "([II)I"⟩
abbrev cX11_bringMultiple : ByteArray := prog_1_method_53_code
def yX11_bringMultiple : MethodName := ⟨RX11, "bringMultiple", "([I[III)V"⟩
def RX12 : String := "OrderMoverModel"
def TX12 : u_T := fun k => match k with
  | 0 => ("OrderMoverModel", "p", "I", false)
  | 1 => ("OrderMoverModel", "powerA", "I", false)
  | 2 => ("OrderMoverModel", "powerB", "I", false)
  | 3 => ("OrderMoverModel", "u", "I", false)
  | 4 => ("OrderMoverModel", "v", "I", false)
  | 5 => ("OrderMoverModel", "coefficients", "[I", true)
  | 6 => ("OrderMoverModel", "kinds", "[I", true)
  | 7 => ("OrderMoverModel", "many", "[I", true)
  | 8 => ("OrderMoverModel", "numbers", "[I", true)
  | 9 => ("OrderMoverModel", "powersI", "[I", true)
  | 10 => ("OrderMoverModel", "powersJ", "[I", true)
  | 11 => ("OrderMoverModel", "keptOrder", "[I", true)
  | 12 => ("OrderMoverModel", "keptU", "[I", true)
  | 13 => ("OrderMoverModel", "keptV", "[I", true)
  | 14 => ("OrderMoverModel", "keptI", "[I", true)
  | 15 => ("OrderMoverModel", "keptJ", "[I", true)
  | 16 => ("OrderMoverModel", "keptTails", "[I", true)
  | 17 => ("OrderMoverModel", "images", "[I", true)
  | 18 => ("OrderMoverModel", "isKept", "[Z", true)
  | 19 => ("OrderMoverModel", "forms", "[I", true)
  | 20 => ("OrderMoverModel", "byX", "[I", true)
  | 21 => ("OrderMoverModel", "byY", "[I", true)
  | 22 => ("OrderMoverModel", "power", "[I", true)
  | 23 => ("OrderMoverModel", "square", "[I", true)
  | 24 => ("OrderMoverModel", "form", "[I", true)
  | 25 => ("OrderMoverModel", "next", "[I", true)
  | 26 => ("OrderMoverModel", "orderNow", "I", false)
  | 27 => ("OrderMoverModel", "uNow", "I", false)
  | 28 => ("OrderMoverModel", "vNow", "I", false)
  | 29 => ("OrderMoverModel", "stairs", "I", false)
  | 30 => ("OrderMoverModel", "stairI", "[I", true)
  | 31 => ("OrderMoverModel", "stairJ", "[I", true)
  | 32 => ("OrderMoverModel", "rows", "[I", true)
  | 33 => ("OrderMoverModel", "pivots", "[I", true)
  | 34 => ("OrderMoverModel", "members", "I", false)
  | 35 => ("OrderMoverModel", "memberI", "[I", true)
  | 36 => ("OrderMoverModel", "memberJ", "[I", true)
  | 37 => ("OrderMoverModel", "tails", "[I", true)
  | 38 => ("OrderMoverModel", "waiting", "I", false)
  | 39 => ("OrderMoverModel", "waitsI", "[I", true)
  | 40 => ("OrderMoverModel", "waitsJ", "[I", true)
  | 41 => ("OrderMoverModel", "made", "[I", true)
  | 42 => ("OrderMoverModel", "least", "[I", true)
  | 43 => ("OrderMoverModel", "degree", "I", false)
  | 44 => ("OrderMoverModel", "one", "[I", true)
  | 45 => ("OrderMoverModel", "other", "[I", true)
  | 46 => ("OrderMoverModel", "roots", "I", false)
  | 47 => ("OrderMoverModel", "rootX", "[I", true)
  | 48 => ("OrderMoverModel", "rootY", "[I", true)
  | 49 => ("OrderMoverModel", "makes", "[I", true)
  | 50 => ("OrderMoverModel", "makesI", "[I", true)
  | 51 => ("OrderMoverModel", "makesJ", "[I", true)
  | 52 => ("OrderMoverModel", "makesMany", "I", false)
  | _ => ("OrderMoverModel", "sums", "[I", true)
def tyX12 : Nat → FieldType := fun k => match k with
  | 0 => .int
  | 1 => .int
  | 2 => .int
  | 3 => .int
  | 4 => .int
  | 5 => .array .int
  | 6 => .array .int
  | 7 => .array .int
  | 8 => .array .int
  | 9 => .array .int
  | 10 => .array .int
  | 11 => .array .int
  | 12 => .array .int
  | 13 => .array .int
  | 14 => .array .int
  | 15 => .array .int
  | 16 => .array .int
  | 17 => .array .int
  | 18 => .array .boolean
  | 19 => .array .int
  | 20 => .array .int
  | 21 => .array .int
  | 22 => .array .int
  | 23 => .array .int
  | 24 => .array .int
  | 25 => .array .int
  | 26 => .int
  | 27 => .int
  | 28 => .int
  | 29 => .int
  | 30 => .array .int
  | 31 => .array .int
  | 32 => .array .int
  | 33 => .array .int
  | 34 => .int
  | 35 => .array .int
  | 36 => .array .int
  | 37 => .array .int
  | 38 => .int
  | 39 => .array .int
  | 40 => .array .int
  | 41 => .array .int
  | 42 => .array .int
  | 43 => .int
  | 44 => .array .int
  | 45 => .array .int
  | 46 => .int
  | 47 => .array .int
  | 48 => .array .int
  | 49 => .array .int
  | 50 => .array .int
  | 51 => .array .int
  | 52 => .int
  | _ => .array .int
abbrev wsX120 : List Cond := u_ws RX12 TX12 54
theorem nmX12 : ∀ a, a < 54 → ∀ b, b < 54 → a ≠ b → (TX12 a).2.1 ≠ (TX12 b).2.1 := by decide +kernel
theorem tyX12_ok : ∀ k, k < 54 → parseFieldDescriptor (TX12 k).2.2.1 = some (tyX12 k) := by decide +kernel
abbrev cX12_init : ByteArray := prog_14_method_1_code
def yX12_init : MethodName := ⟨RX12, "<init>", "()V"⟩
abbrev cX12_in : ByteArray := prog_14_method_3_code
def yX12_in : MethodName := ⟨RX12, "in", "(JJJ)Z"⟩
abbrev cX12_mod : ByteArray := prog_14_method_4_code
def yX12_mod : MethodName := ⟨RX12, "mod", "(J)I"⟩
abbrev cX12_inverse : ByteArray := prog_14_method_5_code
def yX12_inverse : MethodName := ⟨RX12, "inverse", "(I)I"⟩
abbrev cX12_dimension : ByteArray := prog_14_method_6_code
def yX12_dimension : MethodName := ⟨RX12, "dimension", "()I"⟩
abbrev cX12_isPrime : ByteArray := prog_14_method_7_code
def yX12_isPrime : MethodName := ⟨RX12, "isPrime", "(I)Z"⟩
abbrev cX12_dropsNoughts : ByteArray := prog_14_method_8_code
def yX12_dropsNoughts : MethodName := ⟨RX12, "dropsNoughts", "(I)V"⟩
abbrev cX12_becomesField : ByteArray := prog_14_method_9_code
def yX12_becomesField : MethodName := ⟨RX12, "becomesField", "(I)V"⟩
abbrev cX12_field : ByteArray := prog_14_method_10_code
def yX12_field : MethodName := ⟨RX12, "field", "(I)I"⟩
abbrev cX12_system : ByteArray := prog_14_method_11_code
def yX12_system : MethodName := ⟨RX12, "system", "(II)I"⟩
abbrev cX12_isCoefficient : ByteArray := prog_14_method_12_code
def yX12_isCoefficient : MethodName := ⟨RX12, "isCoefficient", "(III)Z"⟩
abbrev cX12_put : ByteArray := prog_14_method_13_code
def yX12_put : MethodName := ⟨RX12, "put", "(IIII)I"⟩
abbrev cX12_get : ByteArray := prog_14_method_14_code
def yX12_get : MethodName := ⟨RX12, "get", "(III)I"⟩
abbrev cX12_weights : ByteArray := prog_14_method_15_code
def yX12_weights : MethodName := ⟨RX12, "weights", "(II)I"⟩
abbrev cX12_drift : ByteArray := prog_14_method_16_code
def yX12_drift : MethodName := ⟨RX12, "drift", "(I)I"⟩
abbrev cX12_formAt : ByteArray := prog_14_method_17_code
def yX12_formAt : MethodName := ⟨RX12, "formAt", "(II)I"⟩
abbrev cX12_laysForm : ByteArray := prog_14_method_18_code
def yX12_laysForm : MethodName := ⟨RX12, "laysForm", "(II)V"⟩
abbrev cX12_laysForms : ByteArray := prog_14_method_19_code
def yX12_laysForms : MethodName := ⟨RX12, "laysForms", "()V"⟩
abbrev cX12_applies : ByteArray := prog_14_method_20_code
def yX12_applies : MethodName := ⟨RX12, "applies", "([I)V"⟩
abbrev cX12_squares : ByteArray := prog_14_method_21_code
def yX12_squares : MethodName := ⟨RX12, "squares", "()V"⟩
abbrev cX12_appliesOften : ByteArray := prog_14_method_22_code
def yX12_appliesOften : MethodName := ⟨RX12, "appliesOften", "([II)V"⟩
abbrev cX12_formOf : ByteArray := prog_14_method_23_code
def yX12_formOf : MethodName := ⟨RX12, "formOf", "(II)V"⟩
abbrev cX12_by : ByteArray := prog_14_method_24_code
def yX12_by : MethodName := ⟨RX12, "by", "(IJJII)J"⟩
abbrev cX12_isLess : ByteArray := prog_14_method_25_code
def yX12_isLess : MethodName := ⟨RX12, "isLess", "(IIII)Z"⟩
abbrev cX12_isLeft : ByteArray := prog_14_method_26_code
def yX12_isLeft : MethodName := ⟨RX12, "isLeft", "()I"⟩
abbrev cX12_climbs : ByteArray := prog_14_method_27_code
def yX12_climbs : MethodName := ⟨RX12, "climbs", "(III)V"⟩
abbrev cX12_leadsNow : ByteArray := prog_14_method_28_code
def yX12_leadsNow : MethodName := ⟨RX12, "leadsNow", "(II)V"⟩
abbrev cX12_isMultiple : ByteArray := prog_14_method_29_code
def yX12_isMultiple : MethodName := ⟨RX12, "isMultiple", "(II)Z"⟩
abbrev cX12_isStair : ByteArray := prog_14_method_30_code
def yX12_isStair : MethodName := ⟨RX12, "isStair", "(II)Z"⟩
abbrev cX12_walks : ByteArray := prog_14_method_31_code
def yX12_walks : MethodName := ⟨RX12, "walks", "(III)V"⟩
abbrev cX12_isOrder : ByteArray := prog_14_method_32_code
def yX12_isOrder : MethodName := ⟨RX12, "isOrder", "(I)Z"⟩
abbrev cX12_walksNow : ByteArray := prog_14_method_33_code
def yX12_walksNow : MethodName := ⟨RX12, "walksNow", "(I)V"⟩
abbrev cX12_highest : ByteArray := prog_14_method_34_code
def yX12_highest : MethodName := ⟨RX12, "highest", "([I[II)I"⟩
abbrev cX12_base : ByteArray := prog_14_method_35_code
def yX12_base : MethodName := ⟨RX12, "base", "(II)I"⟩
abbrev cX12_member : ByteArray := prog_14_method_36_code
def yX12_member : MethodName := ⟨RX12, "member", "(III)I"⟩
abbrev cX12_tail : ByteArray := prog_14_method_37_code
def yX12_tail : MethodName := ⟨RX12, "tail", "(III)I"⟩
abbrev cX12_stair : ByteArray := prog_14_method_38_code
def yX12_stair : MethodName := ⟨RX12, "stair", "(III)I"⟩
abbrev cX12_normal : ByteArray := prog_14_method_39_code
def yX12_normal : MethodName := ⟨RX12, "normal", "(IIII)I"⟩
abbrev cX12_table : ByteArray := prog_14_method_40_code
def yX12_table : MethodName := ⟨RX12, "table", "(IIII)I"⟩
abbrev cX12_place : ByteArray := prog_14_method_41_code
def yX12_place : MethodName := ⟨RX12, "place", "(III)I"⟩
abbrev cX12_findsLeast : ByteArray := prog_14_method_42_code
def yX12_findsLeast : MethodName := ⟨RX12, "findsLeast", "(I)V"⟩
abbrev cX12_least : ByteArray := prog_14_method_43_code
def yX12_least : MethodName := ⟨RX12, "least", "(II)I"⟩
abbrev cX12_highOf : ByteArray := prog_14_method_44_code
def yX12_highOf : MethodName := ⟨RX12, "highOf", "([I)I"⟩
abbrev cX12_hasTwice : ByteArray := prog_14_method_45_code
def yX12_hasTwice : MethodName := ⟨RX12, "hasTwice", "(I)Z"⟩
abbrev cX12_valueOf : ByteArray := prog_14_method_46_code
def yX12_valueOf : MethodName := ⟨RX12, "valueOf", "(III)I"⟩
abbrev cX12_findsRoots : ByteArray := prog_14_method_47_code
def yX12_findsRoots : MethodName := ⟨RX12, "findsRoots", "()V"⟩
abbrev cX12_root : ByteArray := prog_14_method_48_code
def yX12_root : MethodName := ⟨RX12, "root", "(II)I"⟩
abbrev cX12_isPlain : ByteArray := prog_14_method_49_code
def yX12_isPlain : MethodName := ⟨RX12, "isPlain", "()Z"⟩
abbrev cX12_slotsOf : ByteArray := prog_14_method_50_code
def yX12_slotsOf : MethodName := ⟨RX12, "slotsOf", "(I)I"⟩
abbrev cX12_count : ByteArray := prog_14_method_51_code
def yX12_count : MethodName := ⟨RX12, "count", "(I)I"⟩
abbrev cX12_isSlot : ByteArray := prog_14_method_52_code
def yX12_isSlot : MethodName := ⟨RX12, "isSlot", "(I)Z"⟩
abbrev cX12_poly : ByteArray := prog_14_method_53_code
def yX12_poly : MethodName := ⟨RX12, "poly", "(I)I"⟩
abbrev cX12_keepBase : ByteArray := prog_14_method_54_code
def yX12_keepBase : MethodName := ⟨RX12, "keepBase", "(II)I"⟩
abbrev cX12_drop : ByteArray := prog_14_method_55_code
def yX12_drop : MethodName := ⟨RX12, "drop", "(I)I"⟩
abbrev cX12_lacks : ByteArray := prog_14_method_56_code
def yX12_lacks : MethodName := ⟨RX12, "lacks", "(II)I"⟩
abbrev cX12_takes : ByteArray := prog_14_method_57_code
def yX12_takes : MethodName := ⟨RX12, "takes", "(I)V"⟩
abbrev cX12_comes : ByteArray := prog_14_method_58_code
def yX12_comes : MethodName := ⟨RX12, "comes", "(III)V"⟩
abbrev cX12_gives : ByteArray := prog_14_method_59_code
def yX12_gives : MethodName := ⟨RX12, "gives", "(I)I"⟩
abbrev cX12_add : ByteArray := prog_14_method_60_code
def yX12_add : MethodName := ⟨RX12, "add", "(IIII)I"⟩
abbrev cX12_term : ByteArray := prog_14_method_61_code
def yX12_term : MethodName := ⟨RX12, "term", "(III)I"⟩
abbrev cX12_size : ByteArray := prog_14_method_62_code
def yX12_size : MethodName := ⟨RX12, "size", "(I)I"⟩
abbrev cX12_times : ByteArray := prog_14_method_63_code
def yX12_times : MethodName := ⟨RX12, "times", "(III)I"⟩
abbrev cX12_plus : ByteArray := prog_14_method_64_code
def yX12_plus : MethodName := ⟨RX12, "plus", "(III)I"⟩
abbrev cX12_degree : ByteArray := prog_14_method_65_code
def yX12_degree : MethodName := ⟨RX12, "degree", "(I)I"⟩
abbrev cX12_leads : ByteArray := prog_14_method_66_code
def yX12_leads : MethodName := ⟨RX12, "leads", "(II)I"⟩
abbrev cX12_formOfSlot : ByteArray := prog_14_method_67_code
def yX12_formOfSlot : MethodName := ⟨RX12, "formOfSlot", "(I)V"⟩
abbrev cX12_reduce : ByteArray := prog_14_method_68_code
def yX12_reduce : MethodName := ⟨RX12, "reduce", "(II)I"⟩
abbrev cX12_belongs : ByteArray := prog_14_method_69_code
def yX12_belongs : MethodName := ⟨RX12, "belongs", "(I)I"⟩
abbrev cX12_stands : ByteArray := prog_14_method_70_code
def yX12_stands : MethodName := ⟨RX12, "stands", "(I)I"⟩
abbrev cX12_kept : ByteArray := prog_14_method_71_code
def yX12_kept : MethodName := ⟨RX12, "kept", "(II)I"⟩
abbrev cX12_image : ByteArray := prog_14_method_72_code
def yX12_image : MethodName := ⟨RX12, "image", "(I)I"⟩
abbrev cX12_goBack : ByteArray := prog_14_method_73_code
def yX12_goBack : MethodName := ⟨RX12, "goBack", "(I)I"⟩
def RJ9 : String := "java/lang/Math"
def TJ9 : u_T := fun k => match k with
  | _ => ("", "", "", false)
def tyJ9 : Nat → FieldType := fun k => match k with
  | _ => .int
abbrev wsJ90 : List Cond := u_ws RJ9 TJ9 0
theorem nmJ9 : ∀ a, a < 0 → ∀ b, b < 0 → a ≠ b → (TJ9 a).2.1 ≠ (TJ9 b).2.1 := by decide +kernel
theorem tyJ9_ok : ∀ k, k < 0 → parseFieldDescriptor (TJ9 k).2.2.1 = some (tyJ9 k) := by decide +kernel
abbrev cJ9_max_7cf53 : ByteArray := prog_15_method_65_code
def yJ9_max_7cf53 : MethodName := ⟨RJ9, "max", "(II)I"⟩
abbrev cJ9_max_f86c9 : ByteArray := prog_15_method_66_code
def yJ9_max_f86c9 : MethodName := ⟨RJ9, "max", "(JJ)J"⟩
abbrev cJ9_min_7cf53 : ByteArray := prog_15_method_69_code
def yJ9_min_7cf53 : MethodName := ⟨RJ9, "min", "(II)I"⟩
def RL : String := "OrderMoverLaw"
abbrev cL_law : ByteArray := code
def yL_law : MethodName := ⟨RL, "law", "([I)Z"⟩
def wsX10_init : List Cond := .code yX10_init cX10_init 1 none :: ([.methodLink RX10 1 objectInit, .instanceMethod objectInit, .code objectInit ⟨#[0xb1]⟩ 1 none, .fieldLink RX10 7 "OrderMover$TermOrder" "u" "I", .fieldLink RX10 13 "OrderMover$TermOrder" "v" "I"] ++ wsX100)
def wsX4_init : List Cond := .code yX4_init cX4_init 1 none :: ([.methodLink RX4 3 objectInit, .instanceMethod objectInit, .code objectInit ⟨#[0xb1]⟩ 1 none, .arrayClass .int, .fieldLink RX4 9 "OrderMover$Members" "xs" "[I", .fieldLink RX4 15 "OrderMover$Members" "ys" "[I", .classLink RX4 18 "[[I", .fieldLink RX4 20 "OrderMover$Members" "tails" "[[I"] ++ wsX40)
def wsX9_init : List Cond := .code yX9_init cX9_init 1 none :: ([.methodLink RX9 3 objectInit, .instanceMethod objectInit, .code objectInit ⟨#[0xb1]⟩ 1 none, .classLink RX9 9 "[[I", .arrayClass .int, .fieldLink RX9 11 "OrderMover$Span" "rows" "[[I", .fieldLink RX9 16 "OrderMover$Span" "shares" "[[I", .fieldLink RX9 19 "OrderMover$Span" "pivots" "[I"] ++ wsX90)
def wsX1_init : List Cond := .code yX1_init cX1_init 1 none :: ([.methodLink RX1 3 objectInit, .instanceMethod objectInit, .code objectInit ⟨#[0xb1]⟩ 1 none, .arrayClass .int, .fieldLink RX1 11 "OrderMover$Border" "xs" "[I", .fieldLink RX1 15 "OrderMover$Border" "ys" "[I", .fieldLink RX1 18 "OrderMover$Border" "below" "[I", .fieldLink RX1 21 "OrderMover$Border" "unknowns" "[I", .arrayClass .boolean, .fieldLink RX1 24 "OrderMover$Border" "passed" "[Z"] ++ wsX10)
def wsX0_init_r1 : List Cond := [Cond.methodLink RX0 3 objectInit, Cond.instanceMethod objectInit, Cond.code objectInit ⟨#[0xb1]⟩ 1 none, Cond.classLink RX0 9 RX10, Cond.instantiable RX10 3, Cond.initialized RX10, Cond.fieldLink RX0 12 "OrderMover$Base" "order" "LOrderMover$TermOrder;", Cond.classLink RX0 18 RX4, Cond.instantiable RX4 4, Cond.initialized RX4, Cond.fieldLink RX0 21 "OrderMover$Base" "members" "LOrderMover$Members;", Cond.classLink RX0 25 RX9, Cond.instantiable RX9 5, Cond.initialized RX9, Cond.fieldLink RX0 28 "OrderMover$Base" "span" "LOrderMover$Span;", Cond.arrayClass .int, Cond.fieldLink RX0 32 "OrderMover$Base" "stairXs" "[I", Cond.fieldLink RX0 36 "OrderMover$Base" "stairYs" "[I", Cond.classLink RX0 39 "[[I", Cond.fieldLink RX0 41 "OrderMover$Base" "vectors" "[[I", Cond.classLink RX0 44 RX1, Cond.instantiable RX1 6, Cond.initialized RX1, Cond.fieldLink RX0 47 "OrderMover$Base" "border" "LOrderMover$Border;"]
def wsX0_init_r2 : List Cond := [Cond.fieldLink RX0 51 "OrderMover$Base" "rest" "[I", Cond.fieldLink RX0 54 "OrderMover$Base" "share" "[I", Cond.instanceMethod yX10_init, Cond.code yX10_init cX10_init 1 none, Cond.methodLink RX10 1 objectInit, Cond.fieldLink RX10 7 "OrderMover$TermOrder" "u" "I", Cond.fieldLink RX10 13 "OrderMover$TermOrder" "v" "I", Cond.instanceMethod yX4_init, Cond.code yX4_init cX4_init 1 none, Cond.methodLink RX4 3 objectInit, Cond.fieldLink RX4 9 "OrderMover$Members" "xs" "[I", Cond.fieldLink RX4 15 "OrderMover$Members" "ys" "[I", Cond.classLink RX4 18 "[[I", Cond.fieldLink RX4 20 "OrderMover$Members" "tails" "[[I", Cond.instanceMethod yX9_init, Cond.code yX9_init cX9_init 1 none, Cond.methodLink RX9 3 objectInit, Cond.classLink RX9 9 "[[I", Cond.fieldLink RX9 11 "OrderMover$Span" "rows" "[[I", Cond.fieldLink RX9 16 "OrderMover$Span" "shares" "[[I", Cond.fieldLink RX9 19 "OrderMover$Span" "pivots" "[I", Cond.instanceMethod yX1_init, Cond.code yX1_init cX1_init 1 none, Cond.methodLink RX1 3 objectInit]
def wsX0_init_r3 : List Cond := [Cond.fieldLink RX1 11 "OrderMover$Border" "xs" "[I", Cond.fieldLink RX1 15 "OrderMover$Border" "ys" "[I", Cond.fieldLink RX1 18 "OrderMover$Border" "below" "[I", Cond.fieldLink RX1 21 "OrderMover$Border" "unknowns" "[I", Cond.arrayClass .boolean, Cond.fieldLink RX1 24 "OrderMover$Border" "passed" "[Z"]
def wsX0_init : List Cond := .code yX0_init cX0_init 1 none :: ((wsX0_init_r1 ++ (wsX0_init_r2 ++ wsX0_init_r3)) ++ wsX100 ++ wsX00 ++ wsX40 ++ wsX90 ++ wsX10)
def wsX10_become : List Cond := .code yX10_become cX10_become 4 none :: ([.fieldLink RX10 16 "OrderMover$TermOrder" "kind" "I", .fieldLink RX10 7 "OrderMover$TermOrder" "u" "I", .fieldLink RX10 13 "OrderMover$TermOrder" "v" "I"] ++ wsX100)
def wsX9_begin : List Cond := .code yX9_begin cX9_begin 2 none :: ([.fieldLink RX9 23 "OrderMover$Span" "howMany" "I", .fieldLink RX9 27 "OrderMover$Span" "p" "I"] ++ wsX90)
def wsX1_has : List Cond := .code yX1_has cX1_has 4 (some .boolean) :: ([.fieldLink RX1 28 "OrderMover$Border" "howMany" "I", .fieldLink RX1 11 "OrderMover$Border" "xs" "[I", .fieldLink RX1 15 "OrderMover$Border" "ys" "[I"] ++ wsX10)
def wsX1_bring : List Cond := .code yX1_bring cX1_bring 5 none :: ([.fieldLink RX1 28 "OrderMover$Border" "howMany" "I", .fieldLink RX1 11 "OrderMover$Border" "xs" "[I", .fieldLink RX1 15 "OrderMover$Border" "ys" "[I", .fieldLink RX1 18 "OrderMover$Border" "below" "[I", .fieldLink RX1 21 "OrderMover$Border" "unknowns" "[I", .fieldLink RX1 24 "OrderMover$Border" "passed" "[Z", .methodLink RX1 36 yX1_has, .instanceMethod yX1_has, .selects RX1 yX1_has yX1_has, .initialized RX1, .code yX1_has cX1_has 4 (some .boolean)] ++ wsX10)
def wsX1_begin : List Cond := .code yX1_begin cX1_begin 1 none :: ([.fieldLink RX1 28 "OrderMover$Border" "howMany" "I", .methodLink RX1 32 yX1_bring, .instanceMethod yX1_bring, .selects RX1 yX1_bring yX1_bring, .initialized RX1, .code yX1_bring cX1_bring 5 none, .fieldLink RX1 11 "OrderMover$Border" "xs" "[I", .fieldLink RX1 15 "OrderMover$Border" "ys" "[I", .fieldLink RX1 18 "OrderMover$Border" "below" "[I", .fieldLink RX1 21 "OrderMover$Border" "unknowns" "[I", .fieldLink RX1 24 "OrderMover$Border" "passed" "[Z", .methodLink RX1 36 yX1_has, .instanceMethod yX1_has, .selects RX1 yX1_has yX1_has, .code yX1_has cX1_has 4 (some .boolean)] ++ wsX10)
def wsX10_weight : List Cond := .code yX10_weight cX10_weight 3 (some .long) :: ([.fieldLink RX10 16 "OrderMover$TermOrder" "kind" "I", .fieldLink RX10 7 "OrderMover$TermOrder" "u" "I", .fieldLink RX10 13 "OrderMover$TermOrder" "v" "I"] ++ wsX100)
def wsX10_isLess : List Cond := .code yX10_isLess cX10_isLess 10 (some .boolean) :: ([.fieldLink RX10 16 "OrderMover$TermOrder" "kind" "I", .methodLink RX10 19 yX10_weight, .instanceMethod yX10_weight, .selects RX10 yX10_weight yX10_weight, .initialized RX10, .code yX10_weight cX10_weight 3 (some .long), .fieldLink RX10 7 "OrderMover$TermOrder" "u" "I", .fieldLink RX10 13 "OrderMover$TermOrder" "v" "I"] ++ wsX100)
def wsX1_passLeast : List Cond := .code yX1_passLeast cX1_passLeast 4 (some .int) :: ([.fieldLink RX1 28 "OrderMover$Border" "howMany" "I", .fieldLink RX1 24 "OrderMover$Border" "passed" "[Z", .fieldLink RX1 11 "OrderMover$Border" "xs" "[I", .fieldLink RX1 15 "OrderMover$Border" "ys" "[I", .methodLink RX1 40 yX10_isLess, .instanceMethod yX10_isLess, .selects RX10 yX10_isLess yX10_isLess, .initialized RX10, .code yX10_isLess cX10_isLess 10 (some .boolean), .fieldLink RX10 16 "OrderMover$TermOrder" "kind" "I", .methodLink RX10 19 yX10_weight, .instanceMethod yX10_weight, .selects RX10 yX10_weight yX10_weight, .code yX10_weight cX10_weight 3 (some .long), .fieldLink RX10 7 "OrderMover$TermOrder" "u" "I", .fieldLink RX10 13 "OrderMover$TermOrder" "v" "I"] ++ wsX10 ++ wsX100)
def wsX4_leadTo : List Cond := .code yX4_leadTo cX4_leadTo 4 (some .boolean) :: ([.fieldLink RX4 23 "OrderMover$Members" "howMany" "I", .fieldLink RX4 9 "OrderMover$Members" "xs" "[I", .fieldLink RX4 15 "OrderMover$Members" "ys" "[I"] ++ wsX40)
def wsX11_clear : List Cond := .code yX11_clear cX11_clear 2 none :: ([])
def wsX6_toOne : List Cond := .code yX6_toOne cX6_toOne 2 none :: ([.static yX11_clear, .initialized RX11, .code yX11_clear cX11_clear 2 none])
def wsX6_formAt : List Cond := .code yX6_formAt cX6_formAt 4 (some (.array .int)) :: ([.fieldLink RX6 13 "OrderMover$Quotient" "forms" "[[I"] ++ wsX60)
def wsX11_bringMultiple : List Cond := .code yX11_bringMultiple cX11_bringMultiple 5 none :: ([])
def wsX6_multiply : List Cond := .code yX6_multiply cX6_multiply 7 none :: ([.fieldLink RX6 16 "OrderMover$Quotient" "moved" "[I", .fieldLink RX6 36 "OrderMover$Quotient" "height" "I", .fieldLink RX6 30 "OrderMover$Quotient" "width" "I", .fieldLink RX6 26 "OrderMover$Quotient" "p" "I", .static yX11_clear, .initialized RX11, .code yX11_clear cX11_clear 2 none, .methodLink RX6 43 yX6_formAt, .instanceMethod yX6_formAt, .selects RX6 yX6_formAt yX6_formAt, .initialized RX6, .code yX6_formAt cX6_formAt 4 (some (.array .int)), .fieldLink RX6 13 "OrderMover$Quotient" "forms" "[[I", .static yX11_bringMultiple, .code yX11_bringMultiple cX11_bringMultiple 5 none] ++ wsX60)
def wsX9_express : List Cond := .code yX9_express cX9_express 5 none :: ([.fieldLink RX9 23 "OrderMover$Span" "howMany" "I", .fieldLink RX9 19 "OrderMover$Span" "pivots" "[I", .fieldLink RX9 11 "OrderMover$Span" "rows" "[[I", .fieldLink RX9 27 "OrderMover$Span" "p" "I", .fieldLink RX9 16 "OrderMover$Span" "shares" "[[I", .static yX11_clear, .initialized RX11, .code yX11_clear cX11_clear 2 none, .static yX11_bringMultiple, .code yX11_bringMultiple cX11_bringMultiple 5 none] ++ wsX90)
def wsX11_firstNotZero : List Cond := .code yX11_firstNotZero cX11_firstNotZero 2 (some .int) :: ([])
def wsX4_bring : List Cond := .code yX4_bring cX4_bring 5 none :: ([.fieldLink RX4 23 "OrderMover$Members" "howMany" "I", .fieldLink RX4 9 "OrderMover$Members" "xs" "[I", .fieldLink RX4 15 "OrderMover$Members" "ys" "[I", .fieldLink RX4 20 "OrderMover$Members" "tails" "[[I", .static yX11_clear, .initialized RX11, .code yX11_clear cX11_clear 2 none, .static yX11_bringMultiple, .code yX11_bringMultiple cX11_bringMultiple 5 none] ++ wsX40)
def wsX11_inverse : List Cond := .code yX11_inverse cX11_inverse 3 (some .int) :: ([])
def wsX9_absorb : List Cond := .code yX9_absorb cX9_absorb 5 none :: ([.fieldLink RX9 23 "OrderMover$Span" "howMany" "I", .fieldLink RX9 27 "OrderMover$Span" "p" "I", .fieldLink RX9 11 "OrderMover$Span" "rows" "[[I", .fieldLink RX9 16 "OrderMover$Span" "shares" "[[I", .fieldLink RX9 19 "OrderMover$Span" "pivots" "[I", .static yX11_firstNotZero, .initialized RX11, .code yX11_firstNotZero cX11_firstNotZero 2 (some .int), .static yX11_inverse, .code yX11_inverse cX11_inverse 3 (some .int), .static yX11_clear, .code yX11_clear cX11_clear 2 none, .static yX11_bringMultiple, .code yX11_bringMultiple cX11_bringMultiple 5 none] ++ wsX90)
def wsX0_visit_r1 : List Cond := [Cond.fieldLink RX0 47 "OrderMover$Base" "border" "LOrderMover$Border;", Cond.fieldLink RX0 80 "OrderMover$Border" "xs" "[I", Cond.fieldLink RX0 83 "OrderMover$Border" "ys" "[I", Cond.fieldLink RX0 94 "OrderMover$Border" "below" "[I", Cond.fieldLink RX0 51 "OrderMover$Base" "rest" "[I", Cond.fieldLink RX0 101 "OrderMover$Border" "unknowns" "[I", Cond.fieldLink RX0 41 "OrderMover$Base" "vectors" "[[I", Cond.fieldLink RX0 28 "OrderMover$Base" "span" "LOrderMover$Span;", Cond.fieldLink RX0 108 "OrderMover$Span" "howMany" "I", Cond.fieldLink RX0 65 "OrderMover$Quotient" "p" "I", Cond.fieldLink RX0 54 "OrderMover$Base" "share" "[I", Cond.fieldLink RX0 21 "OrderMover$Base" "members" "LOrderMover$Members;", Cond.fieldLink RX0 32 "OrderMover$Base" "stairXs" "[I", Cond.fieldLink RX0 36 "OrderMover$Base" "stairYs" "[I", Cond.methodLink RX0 97 yX6_toOne, Cond.instanceMethod yX6_toOne, Cond.selects RX6 yX6_toOne yX6_toOne, Cond.initialized RX6, Cond.code yX6_toOne cX6_toOne 2 none, Cond.static yX11_clear, Cond.initialized RX11, Cond.code yX11_clear cX11_clear 2 none, Cond.methodLink RX0 104 yX6_multiply, Cond.instanceMethod yX6_multiply]
def wsX0_visit_r2 : List Cond := [Cond.selects RX6 yX6_multiply yX6_multiply, Cond.code yX6_multiply cX6_multiply 7 none, Cond.fieldLink RX6 16 "OrderMover$Quotient" "moved" "[I", Cond.fieldLink RX6 36 "OrderMover$Quotient" "height" "I", Cond.fieldLink RX6 30 "OrderMover$Quotient" "width" "I", Cond.fieldLink RX6 26 "OrderMover$Quotient" "p" "I", Cond.methodLink RX6 43 yX6_formAt, Cond.instanceMethod yX6_formAt, Cond.selects RX6 yX6_formAt yX6_formAt, Cond.code yX6_formAt cX6_formAt 4 (some (.array .int)), Cond.fieldLink RX6 13 "OrderMover$Quotient" "forms" "[[I", Cond.static yX11_bringMultiple, Cond.code yX11_bringMultiple cX11_bringMultiple 5 none, Cond.methodLink RX0 116 yX9_express, Cond.instanceMethod yX9_express, Cond.selects RX9 yX9_express yX9_express, Cond.initialized RX9, Cond.code yX9_express cX9_express 5 none, Cond.fieldLink RX9 23 "OrderMover$Span" "howMany" "I", Cond.fieldLink RX9 19 "OrderMover$Span" "pivots" "[I", Cond.fieldLink RX9 11 "OrderMover$Span" "rows" "[[I", Cond.fieldLink RX9 27 "OrderMover$Span" "p" "I", Cond.fieldLink RX9 16 "OrderMover$Span" "shares" "[[I", Cond.static yX11_firstNotZero]
def wsX0_visit_r3 : List Cond := [Cond.code yX11_firstNotZero cX11_firstNotZero 2 (some .int), Cond.methodLink RX0 124 yX4_bring, Cond.instanceMethod yX4_bring, Cond.selects RX4 yX4_bring yX4_bring, Cond.initialized RX4, Cond.code yX4_bring cX4_bring 5 none, Cond.fieldLink RX4 23 "OrderMover$Members" "howMany" "I", Cond.fieldLink RX4 9 "OrderMover$Members" "xs" "[I", Cond.fieldLink RX4 15 "OrderMover$Members" "ys" "[I", Cond.fieldLink RX4 20 "OrderMover$Members" "tails" "[[I", Cond.methodLink RX0 128 yX9_absorb, Cond.instanceMethod yX9_absorb, Cond.selects RX9 yX9_absorb yX9_absorb, Cond.code yX9_absorb cX9_absorb 5 none, Cond.static yX11_inverse, Cond.code yX11_inverse cX11_inverse 3 (some .int), Cond.methodLink RX0 131 yX1_bring, Cond.instanceMethod yX1_bring, Cond.selects RX1 yX1_bring yX1_bring, Cond.initialized RX1, Cond.code yX1_bring cX1_bring 5 none, Cond.fieldLink RX1 28 "OrderMover$Border" "howMany" "I", Cond.fieldLink RX1 11 "OrderMover$Border" "xs" "[I", Cond.fieldLink RX1 15 "OrderMover$Border" "ys" "[I"]
def wsX0_visit_r4 : List Cond := [Cond.fieldLink RX1 18 "OrderMover$Border" "below" "[I", Cond.fieldLink RX1 21 "OrderMover$Border" "unknowns" "[I", Cond.fieldLink RX1 24 "OrderMover$Border" "passed" "[Z", Cond.methodLink RX1 36 yX1_has, Cond.instanceMethod yX1_has, Cond.selects RX1 yX1_has yX1_has, Cond.code yX1_has cX1_has 4 (some .boolean)]
def wsX0_visit : List Cond := .code yX0_visit cX0_visit 6 none :: ((wsX0_visit_r1 ++ (wsX0_visit_r2 ++ (wsX0_visit_r3 ++ wsX0_visit_r4))) ++ wsX00 ++ wsX10 ++ wsX90 ++ wsX60 ++ wsX40)
def wsX0_walk_r1 : List Cond := [Cond.fieldLink RX0 12 "OrderMover$Base" "order" "LOrderMover$TermOrder;", Cond.fieldLink RX0 21 "OrderMover$Base" "members" "LOrderMover$Members;", Cond.fieldLink RX0 61 "OrderMover$Members" "howMany" "I", Cond.fieldLink RX0 28 "OrderMover$Base" "span" "LOrderMover$Span;", Cond.fieldLink RX0 65 "OrderMover$Quotient" "p" "I", Cond.fieldLink RX0 47 "OrderMover$Base" "border" "LOrderMover$Border;", Cond.fieldLink RX0 80 "OrderMover$Border" "xs" "[I", Cond.fieldLink RX0 83 "OrderMover$Border" "ys" "[I", Cond.methodLink RX0 57 yX10_become, Cond.instanceMethod yX10_become, Cond.selects RX10 yX10_become yX10_become, Cond.initialized RX10, Cond.code yX10_become cX10_become 4 none, Cond.fieldLink RX10 16 "OrderMover$TermOrder" "kind" "I", Cond.fieldLink RX10 7 "OrderMover$TermOrder" "u" "I", Cond.fieldLink RX10 13 "OrderMover$TermOrder" "v" "I", Cond.methodLink RX0 70 yX9_begin, Cond.instanceMethod yX9_begin, Cond.selects RX9 yX9_begin yX9_begin, Cond.initialized RX9, Cond.code yX9_begin cX9_begin 2 none, Cond.fieldLink RX9 23 "OrderMover$Span" "howMany" "I", Cond.fieldLink RX9 27 "OrderMover$Span" "p" "I", Cond.methodLink RX0 74 yX1_begin]
def wsX0_walk_r2 : List Cond := [Cond.instanceMethod yX1_begin, Cond.selects RX1 yX1_begin yX1_begin, Cond.initialized RX1, Cond.code yX1_begin cX1_begin 1 none, Cond.fieldLink RX1 28 "OrderMover$Border" "howMany" "I", Cond.methodLink RX1 32 yX1_bring, Cond.instanceMethod yX1_bring, Cond.selects RX1 yX1_bring yX1_bring, Cond.code yX1_bring cX1_bring 5 none, Cond.fieldLink RX1 11 "OrderMover$Border" "xs" "[I", Cond.fieldLink RX1 15 "OrderMover$Border" "ys" "[I", Cond.fieldLink RX1 18 "OrderMover$Border" "below" "[I", Cond.fieldLink RX1 21 "OrderMover$Border" "unknowns" "[I", Cond.fieldLink RX1 24 "OrderMover$Border" "passed" "[Z", Cond.methodLink RX1 36 yX1_has, Cond.instanceMethod yX1_has, Cond.selects RX1 yX1_has yX1_has, Cond.code yX1_has cX1_has 4 (some .boolean), Cond.methodLink RX0 76 yX1_passLeast, Cond.instanceMethod yX1_passLeast, Cond.selects RX1 yX1_passLeast yX1_passLeast, Cond.code yX1_passLeast cX1_passLeast 4 (some .int), Cond.methodLink RX1 40 yX10_isLess, Cond.instanceMethod yX10_isLess]
def wsX0_walk_r3 : List Cond := [Cond.selects RX10 yX10_isLess yX10_isLess, Cond.code yX10_isLess cX10_isLess 10 (some .boolean), Cond.methodLink RX10 19 yX10_weight, Cond.instanceMethod yX10_weight, Cond.selects RX10 yX10_weight yX10_weight, Cond.code yX10_weight cX10_weight 3 (some .long), Cond.methodLink RX0 86 yX4_leadTo, Cond.instanceMethod yX4_leadTo, Cond.selects RX4 yX4_leadTo yX4_leadTo, Cond.initialized RX4, Cond.code yX4_leadTo cX4_leadTo 4 (some .boolean), Cond.fieldLink RX4 23 "OrderMover$Members" "howMany" "I", Cond.fieldLink RX4 9 "OrderMover$Members" "xs" "[I", Cond.fieldLink RX4 15 "OrderMover$Members" "ys" "[I", Cond.methodLink RX0 90 yX0_visit, Cond.instanceMethod yX0_visit, Cond.selects RX0 yX0_visit yX0_visit, Cond.initialized RX0, Cond.code yX0_visit cX0_visit 6 none, Cond.fieldLink RX0 94 "OrderMover$Border" "below" "[I", Cond.fieldLink RX0 51 "OrderMover$Base" "rest" "[I", Cond.fieldLink RX0 101 "OrderMover$Border" "unknowns" "[I", Cond.fieldLink RX0 41 "OrderMover$Base" "vectors" "[[I", Cond.fieldLink RX0 108 "OrderMover$Span" "howMany" "I"]
def wsX0_walk_r4 : List Cond := [Cond.fieldLink RX0 54 "OrderMover$Base" "share" "[I", Cond.fieldLink RX0 32 "OrderMover$Base" "stairXs" "[I", Cond.fieldLink RX0 36 "OrderMover$Base" "stairYs" "[I", Cond.methodLink RX0 97 yX6_toOne, Cond.instanceMethod yX6_toOne, Cond.selects RX6 yX6_toOne yX6_toOne, Cond.initialized RX6, Cond.code yX6_toOne cX6_toOne 2 none, Cond.static yX11_clear, Cond.initialized RX11, Cond.code yX11_clear cX11_clear 2 none, Cond.methodLink RX0 104 yX6_multiply, Cond.instanceMethod yX6_multiply, Cond.selects RX6 yX6_multiply yX6_multiply, Cond.code yX6_multiply cX6_multiply 7 none, Cond.fieldLink RX6 16 "OrderMover$Quotient" "moved" "[I", Cond.fieldLink RX6 36 "OrderMover$Quotient" "height" "I", Cond.fieldLink RX6 30 "OrderMover$Quotient" "width" "I", Cond.fieldLink RX6 26 "OrderMover$Quotient" "p" "I", Cond.methodLink RX6 43 yX6_formAt, Cond.instanceMethod yX6_formAt, Cond.selects RX6 yX6_formAt yX6_formAt, Cond.code yX6_formAt cX6_formAt 4 (some (.array .int)), Cond.fieldLink RX6 13 "OrderMover$Quotient" "forms" "[[I"]
def wsX0_walk_r5 : List Cond := [Cond.static yX11_bringMultiple, Cond.code yX11_bringMultiple cX11_bringMultiple 5 none, Cond.methodLink RX0 116 yX9_express, Cond.instanceMethod yX9_express, Cond.selects RX9 yX9_express yX9_express, Cond.code yX9_express cX9_express 5 none, Cond.fieldLink RX9 19 "OrderMover$Span" "pivots" "[I", Cond.fieldLink RX9 11 "OrderMover$Span" "rows" "[[I", Cond.fieldLink RX9 16 "OrderMover$Span" "shares" "[[I", Cond.static yX11_firstNotZero, Cond.code yX11_firstNotZero cX11_firstNotZero 2 (some .int), Cond.methodLink RX0 124 yX4_bring, Cond.instanceMethod yX4_bring, Cond.selects RX4 yX4_bring yX4_bring, Cond.code yX4_bring cX4_bring 5 none, Cond.fieldLink RX4 20 "OrderMover$Members" "tails" "[[I", Cond.methodLink RX0 128 yX9_absorb, Cond.instanceMethod yX9_absorb, Cond.selects RX9 yX9_absorb yX9_absorb, Cond.code yX9_absorb cX9_absorb 5 none, Cond.static yX11_inverse, Cond.code yX11_inverse cX11_inverse 3 (some .int), Cond.methodLink RX0 131 yX1_bring]
def wsX0_walk : List Cond := .code yX0_walk cX0_walk 7 none :: ((wsX0_walk_r1 ++ (wsX0_walk_r2 ++ (wsX0_walk_r3 ++ (wsX0_walk_r4 ++ wsX0_walk_r5)))) ++ wsX00 ++ wsX40 ++ wsX60 ++ wsX10 ++ wsX100 ++ wsX90)
def wsX0_stairAt : List Cond := .code yX0_stairAt cX0_stairAt 4 (some .int) :: ([.fieldLink RX0 28 "OrderMover$Base" "span" "LOrderMover$Span;", .fieldLink RX0 108 "OrderMover$Span" "howMany" "I", .fieldLink RX0 32 "OrderMover$Base" "stairXs" "[I", .fieldLink RX0 36 "OrderMover$Base" "stairYs" "[I"] ++ wsX00 ++ wsX90)
def wsX0_greatestStairSum : List Cond := .code yX0_greatestStairSum cX0_greatestStairSum 3 (some .int) :: ([.fieldLink RX0 28 "OrderMover$Base" "span" "LOrderMover$Span;", .fieldLink RX0 108 "OrderMover$Span" "howMany" "I", .fieldLink RX0 32 "OrderMover$Base" "stairXs" "[I", .fieldLink RX0 36 "OrderMover$Base" "stairYs" "[I", .methodLink RX0 134 Lib.Math.max.name, .static Lib.Math.max.name, .initialized "java/lang/Math", .code Lib.Math.max.name Lib.Math.max.code 2 (some .int)] ++ wsX00 ++ wsX90)
def wsX6_init : List Cond := .code yX6_init cX6_init 1 none :: ([.methodLink RX6 3 objectInit, .instanceMethod objectInit, .code objectInit ⟨#[0xb1]⟩ 1 none, .classLink RX6 11 "[[I", .arrayClass .int, .fieldLink RX6 13 "OrderMover$Quotient" "forms" "[[I", .fieldLink RX6 16 "OrderMover$Quotient" "moved" "[I"] ++ wsX60)
def wsX3_init : List Cond := .code yX3_init cX3_init 1 none :: ([.methodLink RX3 3 objectInit, .instanceMethod objectInit, .code objectInit ⟨#[0xb1]⟩ 1 none, .arrayClass .int, .fieldLink RX3 9 "OrderMover$Least" "numbers" "[I", .fieldLink RX3 15 "OrderMover$Least" "raised" "[I", .fieldLink RX3 18 "OrderMover$Least" "square" "[I", .fieldLink RX3 21 "OrderMover$Least" "one" "[I", .fieldLink RX3 24 "OrderMover$Least" "other" "[I"] ++ wsX30)
def wsX2_init_r1 : List Cond := [Cond.methodLink RX2 3 objectInit, Cond.instanceMethod objectInit, Cond.code objectInit ⟨#[0xb1]⟩ 1 none, Cond.classLink RX2 9 RX6, Cond.instantiable RX6 5, Cond.initialized RX6, Cond.fieldLink RX2 12 "OrderMover$Ideal" "quotient" "LOrderMover$Quotient;", Cond.classLink RX2 18 RX3, Cond.fieldLink RX2 20 "OrderMover$Ideal" "leasts" "[LOrderMover$Least;", Cond.arrayClass .int, Cond.fieldLink RX2 24 "OrderMover$Ideal" "rootXs" "[I", Cond.fieldLink RX2 28 "OrderMover$Ideal" "rootYs" "[I", Cond.classLink RX2 31 RX0, Cond.fieldLink RX2 33 "OrderMover$Ideal" "bases" "[LOrderMover$Base;", Cond.arrayClass .boolean, Cond.fieldLink RX2 37 "OrderMover$Ideal" "walked" "[Z", Cond.fieldLink RX2 41 "OrderMover$Ideal" "roots" "I", Cond.fieldLink RX2 45 "OrderMover$Ideal" "partial" "[I", Cond.instantiable RX0 9, Cond.initialized RX0, Cond.instantiable RX3 7, Cond.initialized RX3, Cond.instanceMethod yX6_init, Cond.code yX6_init cX6_init 1 none]
def wsX2_init_r2 : List Cond := [Cond.methodLink RX6 3 objectInit, Cond.classLink RX6 11 "[[I", Cond.fieldLink RX6 13 "OrderMover$Quotient" "forms" "[[I", Cond.fieldLink RX6 16 "OrderMover$Quotient" "moved" "[I", Cond.instanceMethod yX0_init, Cond.code yX0_init cX0_init 1 none, Cond.methodLink RX0 3 objectInit, Cond.classLink RX0 9 RX10, Cond.instantiable RX10 3, Cond.initialized RX10, Cond.fieldLink RX0 12 "OrderMover$Base" "order" "LOrderMover$TermOrder;", Cond.classLink RX0 18 RX4, Cond.instantiable RX4 4, Cond.initialized RX4, Cond.fieldLink RX0 21 "OrderMover$Base" "members" "LOrderMover$Members;", Cond.classLink RX0 25 RX9, Cond.instantiable RX9 5, Cond.initialized RX9, Cond.fieldLink RX0 28 "OrderMover$Base" "span" "LOrderMover$Span;", Cond.fieldLink RX0 32 "OrderMover$Base" "stairXs" "[I", Cond.fieldLink RX0 36 "OrderMover$Base" "stairYs" "[I", Cond.classLink RX0 39 "[[I", Cond.fieldLink RX0 41 "OrderMover$Base" "vectors" "[[I", Cond.classLink RX0 44 RX1]
def wsX2_init_r3 : List Cond := [Cond.instantiable RX1 6, Cond.initialized RX1, Cond.fieldLink RX0 47 "OrderMover$Base" "border" "LOrderMover$Border;", Cond.fieldLink RX0 51 "OrderMover$Base" "rest" "[I", Cond.fieldLink RX0 54 "OrderMover$Base" "share" "[I", Cond.instanceMethod yX10_init, Cond.code yX10_init cX10_init 1 none, Cond.methodLink RX10 1 objectInit, Cond.fieldLink RX10 7 "OrderMover$TermOrder" "u" "I", Cond.fieldLink RX10 13 "OrderMover$TermOrder" "v" "I", Cond.instanceMethod yX4_init, Cond.code yX4_init cX4_init 1 none, Cond.methodLink RX4 3 objectInit, Cond.fieldLink RX4 9 "OrderMover$Members" "xs" "[I", Cond.fieldLink RX4 15 "OrderMover$Members" "ys" "[I", Cond.classLink RX4 18 "[[I", Cond.fieldLink RX4 20 "OrderMover$Members" "tails" "[[I", Cond.instanceMethod yX9_init, Cond.code yX9_init cX9_init 1 none, Cond.methodLink RX9 3 objectInit, Cond.classLink RX9 9 "[[I", Cond.fieldLink RX9 11 "OrderMover$Span" "rows" "[[I", Cond.fieldLink RX9 16 "OrderMover$Span" "shares" "[[I", Cond.fieldLink RX9 19 "OrderMover$Span" "pivots" "[I"]
def wsX2_init_r4 : List Cond := [Cond.instanceMethod yX1_init, Cond.code yX1_init cX1_init 1 none, Cond.methodLink RX1 3 objectInit, Cond.fieldLink RX1 11 "OrderMover$Border" "xs" "[I", Cond.fieldLink RX1 15 "OrderMover$Border" "ys" "[I", Cond.fieldLink RX1 18 "OrderMover$Border" "below" "[I", Cond.fieldLink RX1 21 "OrderMover$Border" "unknowns" "[I", Cond.fieldLink RX1 24 "OrderMover$Border" "passed" "[Z", Cond.instanceMethod yX3_init, Cond.code yX3_init cX3_init 1 none, Cond.methodLink RX3 3 objectInit, Cond.fieldLink RX3 9 "OrderMover$Least" "numbers" "[I", Cond.fieldLink RX3 15 "OrderMover$Least" "raised" "[I", Cond.fieldLink RX3 18 "OrderMover$Least" "square" "[I", Cond.fieldLink RX3 21 "OrderMover$Least" "one" "[I", Cond.fieldLink RX3 24 "OrderMover$Least" "other" "[I"]
def wsX2_init : List Cond := .code yX2_init cX2_init 2 none :: ((wsX2_init_r1 ++ (wsX2_init_r2 ++ (wsX2_init_r3 ++ wsX2_init_r4))) ++ wsX60 ++ wsX20 ++ wsX00 ++ wsX30 ++ wsX100 ++ wsX40 ++ wsX90 ++ wsX10)
def wsX2_forget : List Cond := .code yX2_forget cX2_forget 1 none :: ([.fieldLink RX2 50 "OrderMover$Ideal" "current" "Z"] ++ wsX20)
def wsX7_coefficients : List Cond := .code yX7_coefficients cX7_coefficients 2 (some (.array .int)) :: ([.fieldLink RX7 27 "OrderMover$Setting" "first" "[I", .fieldLink RX7 31 "OrderMover$Setting" "second" "[I"] ++ wsX70)
def wsX7_power : List Cond := .code yX7_power cX7_power 2 (some .int) :: ([.fieldLink RX7 15 "OrderMover$Setting" "a" "I", .fieldLink RX7 18 "OrderMover$Setting" "b" "I"] ++ wsX70)
def wsX11_leftOver : List Cond := .code yX11_leftOver cX11_leftOver 3 (some .int) :: ([])
def wsX6_bringTail_r1 : List Cond := [Cond.fieldLink RX6 26 "OrderMover$Quotient" "p" "I", Cond.methodLink RX6 55 yX7_coefficients, Cond.instanceMethod yX7_coefficients, Cond.selects RX7 yX7_coefficients yX7_coefficients, Cond.initialized RX7, Cond.code yX7_coefficients cX7_coefficients 2 (some (.array .int)), Cond.fieldLink RX7 27 "OrderMover$Setting" "first" "[I", Cond.fieldLink RX7 31 "OrderMover$Setting" "second" "[I", Cond.methodLink RX6 59 yX7_power, Cond.instanceMethod yX7_power, Cond.selects RX7 yX7_power yX7_power, Cond.code yX7_power cX7_power 2 (some .int), Cond.fieldLink RX7 15 "OrderMover$Setting" "a" "I", Cond.fieldLink RX7 18 "OrderMover$Setting" "b" "I", Cond.static yX11_leftOver, Cond.initialized RX11, Cond.code yX11_leftOver cX11_leftOver 3 (some .int), Cond.methodLink RX6 43 yX6_formAt, Cond.instanceMethod yX6_formAt, Cond.selects RX6 yX6_formAt yX6_formAt, Cond.initialized RX6, Cond.code yX6_formAt cX6_formAt 4 (some (.array .int)), Cond.fieldLink RX6 13 "OrderMover$Quotient" "forms" "[[I", Cond.static yX11_bringMultiple]
def wsX6_bringTail_r2 : List Cond := [Cond.code yX11_bringMultiple cX11_bringMultiple 5 none]
def wsX6_bringTail : List Cond := .code yX6_bringTail cX6_bringTail 11 none :: ((wsX6_bringTail_r1 ++ wsX6_bringTail_r2) ++ wsX60 ++ wsX70)
def wsX6_fillForm_r1 : List Cond := [Cond.fieldLink RX6 30 "OrderMover$Quotient" "width" "I", Cond.fieldLink RX6 36 "OrderMover$Quotient" "height" "I", Cond.methodLink RX6 43 yX6_formAt, Cond.instanceMethod yX6_formAt, Cond.selects RX6 yX6_formAt yX6_formAt, Cond.initialized RX6, Cond.code yX6_formAt cX6_formAt 4 (some (.array .int)), Cond.fieldLink RX6 13 "OrderMover$Quotient" "forms" "[[I", Cond.static yX11_clear, Cond.initialized RX11, Cond.code yX11_clear cX11_clear 2 none, Cond.methodLink RX6 51 yX6_bringTail, Cond.instanceMethod yX6_bringTail, Cond.selects RX6 yX6_bringTail yX6_bringTail, Cond.code yX6_bringTail cX6_bringTail 11 none, Cond.fieldLink RX6 26 "OrderMover$Quotient" "p" "I", Cond.methodLink RX6 55 yX7_coefficients, Cond.instanceMethod yX7_coefficients, Cond.selects RX7 yX7_coefficients yX7_coefficients, Cond.initialized RX7, Cond.code yX7_coefficients cX7_coefficients 2 (some (.array .int)), Cond.fieldLink RX7 27 "OrderMover$Setting" "first" "[I", Cond.fieldLink RX7 31 "OrderMover$Setting" "second" "[I", Cond.methodLink RX6 59 yX7_power]
def wsX6_fillForm_r2 : List Cond := [Cond.instanceMethod yX7_power, Cond.selects RX7 yX7_power yX7_power, Cond.code yX7_power cX7_power 2 (some .int), Cond.fieldLink RX7 15 "OrderMover$Setting" "a" "I", Cond.fieldLink RX7 18 "OrderMover$Setting" "b" "I", Cond.static yX11_leftOver, Cond.code yX11_leftOver cX11_leftOver 3 (some .int), Cond.static yX11_bringMultiple, Cond.code yX11_bringMultiple cX11_bringMultiple 5 none]
def wsX6_fillForm : List Cond := .code yX6_fillForm cX6_fillForm 5 none :: ((wsX6_fillForm_r1 ++ wsX6_fillForm_r2) ++ wsX60 ++ wsX70)
def wsX6_build_r1 : List Cond := [Cond.fieldLink RX6 20 "OrderMover$Setting" "p" "I", Cond.fieldLink RX6 26 "OrderMover$Quotient" "p" "I", Cond.fieldLink RX6 27 "OrderMover$Setting" "a" "I", Cond.fieldLink RX6 30 "OrderMover$Quotient" "width" "I", Cond.fieldLink RX6 33 "OrderMover$Setting" "b" "I", Cond.fieldLink RX6 36 "OrderMover$Quotient" "height" "I", Cond.methodLink RX6 39 yX6_fillForm, Cond.instanceMethod yX6_fillForm, Cond.selects RX6 yX6_fillForm yX6_fillForm, Cond.initialized RX6, Cond.code yX6_fillForm cX6_fillForm 5 none, Cond.methodLink RX6 43 yX6_formAt, Cond.instanceMethod yX6_formAt, Cond.selects RX6 yX6_formAt yX6_formAt, Cond.code yX6_formAt cX6_formAt 4 (some (.array .int)), Cond.fieldLink RX6 13 "OrderMover$Quotient" "forms" "[[I", Cond.static yX11_clear, Cond.initialized RX11, Cond.code yX11_clear cX11_clear 2 none, Cond.methodLink RX6 51 yX6_bringTail, Cond.instanceMethod yX6_bringTail, Cond.selects RX6 yX6_bringTail yX6_bringTail, Cond.code yX6_bringTail cX6_bringTail 11 none, Cond.methodLink RX6 55 yX7_coefficients]
def wsX6_build_r2 : List Cond := [Cond.instanceMethod yX7_coefficients, Cond.selects RX7 yX7_coefficients yX7_coefficients, Cond.initialized RX7, Cond.code yX7_coefficients cX7_coefficients 2 (some (.array .int)), Cond.fieldLink RX7 27 "OrderMover$Setting" "first" "[I", Cond.fieldLink RX7 31 "OrderMover$Setting" "second" "[I", Cond.methodLink RX6 59 yX7_power, Cond.instanceMethod yX7_power, Cond.selects RX7 yX7_power yX7_power, Cond.code yX7_power cX7_power 2 (some .int), Cond.fieldLink RX7 15 "OrderMover$Setting" "a" "I", Cond.fieldLink RX7 18 "OrderMover$Setting" "b" "I", Cond.static yX11_leftOver, Cond.code yX11_leftOver cX11_leftOver 3 (some .int), Cond.static yX11_bringMultiple, Cond.code yX11_bringMultiple cX11_bringMultiple 5 none]
def wsX6_build : List Cond := .code yX6_build cX6_build 4 none :: ((wsX6_build_r1 ++ wsX6_build_r2) ++ wsX70 ++ wsX60)
def wsX3_readFrom : List Cond := .code yX3_readFrom cX3_readFrom 5 none :: ([.fieldLink RX3 27 "OrderMover$Least" "p" "I", .methodLink RX3 31 Lib.Math.min.name, .static Lib.Math.min.name, .initialized "java/lang/Math", .code Lib.Math.min.name Lib.Math.min.code 2 (some .int), .fieldLink RX3 37 "OrderMover$Least" "high" "I", .fieldLink RX3 9 "OrderMover$Least" "numbers" "[I", .fieldLink RX3 40 "OrderMover$Members" "tails" "[[I"] ++ wsX30 ++ wsX40)
def wsX2_bringUpToDate_r1 : List Cond := [Cond.fieldLink RX2 50 "OrderMover$Ideal" "current" "Z", Cond.fieldLink RX2 12 "OrderMover$Ideal" "quotient" "LOrderMover$Quotient;", Cond.fieldLink RX2 37 "OrderMover$Ideal" "walked" "[Z", Cond.fieldLink RX2 33 "OrderMover$Ideal" "bases" "[LOrderMover$Base;", Cond.fieldLink RX2 58 "OrderMover$Setting" "u" "I", Cond.fieldLink RX2 63 "OrderMover$Setting" "v" "I", Cond.fieldLink RX2 20 "OrderMover$Ideal" "leasts" "[LOrderMover$Least;", Cond.fieldLink RX2 70 "OrderMover$Base" "members" "LOrderMover$Members;", Cond.fieldLink RX2 74 "OrderMover$Members" "xs" "[I", Cond.fieldLink RX2 79 "OrderMover$Setting" "p" "I", Cond.fieldLink RX2 86 "OrderMover$Members" "ys" "[I", Cond.fieldLink RX2 41 "OrderMover$Ideal" "roots" "I", Cond.methodLink RX2 54 yX6_build, Cond.instanceMethod yX6_build, Cond.selects RX6 yX6_build yX6_build, Cond.initialized RX6, Cond.code yX6_build cX6_build 4 none, Cond.fieldLink RX6 20 "OrderMover$Setting" "p" "I", Cond.fieldLink RX6 26 "OrderMover$Quotient" "p" "I", Cond.fieldLink RX6 27 "OrderMover$Setting" "a" "I", Cond.fieldLink RX6 30 "OrderMover$Quotient" "width" "I", Cond.fieldLink RX6 33 "OrderMover$Setting" "b" "I", Cond.fieldLink RX6 36 "OrderMover$Quotient" "height" "I", Cond.methodLink RX6 39 yX6_fillForm]
def wsX2_bringUpToDate_r2 : List Cond := [Cond.instanceMethod yX6_fillForm, Cond.selects RX6 yX6_fillForm yX6_fillForm, Cond.code yX6_fillForm cX6_fillForm 5 none, Cond.methodLink RX6 43 yX6_formAt, Cond.instanceMethod yX6_formAt, Cond.selects RX6 yX6_formAt yX6_formAt, Cond.code yX6_formAt cX6_formAt 4 (some (.array .int)), Cond.fieldLink RX6 13 "OrderMover$Quotient" "forms" "[[I", Cond.static yX11_clear, Cond.initialized RX11, Cond.code yX11_clear cX11_clear 2 none, Cond.methodLink RX6 51 yX6_bringTail, Cond.instanceMethod yX6_bringTail, Cond.selects RX6 yX6_bringTail yX6_bringTail, Cond.code yX6_bringTail cX6_bringTail 11 none, Cond.methodLink RX6 55 yX7_coefficients, Cond.instanceMethod yX7_coefficients, Cond.selects RX7 yX7_coefficients yX7_coefficients, Cond.initialized RX7, Cond.code yX7_coefficients cX7_coefficients 2 (some (.array .int)), Cond.fieldLink RX7 27 "OrderMover$Setting" "first" "[I", Cond.fieldLink RX7 31 "OrderMover$Setting" "second" "[I", Cond.methodLink RX6 59 yX7_power, Cond.instanceMethod yX7_power]
def wsX2_bringUpToDate_r3 : List Cond := [Cond.selects RX7 yX7_power yX7_power, Cond.code yX7_power cX7_power 2 (some .int), Cond.fieldLink RX7 15 "OrderMover$Setting" "a" "I", Cond.fieldLink RX7 18 "OrderMover$Setting" "b" "I", Cond.static yX11_leftOver, Cond.code yX11_leftOver cX11_leftOver 3 (some .int), Cond.static yX11_bringMultiple, Cond.code yX11_bringMultiple cX11_bringMultiple 5 none, Cond.methodLink RX2 66 yX0_walk, Cond.instanceMethod yX0_walk, Cond.selects RX0 yX0_walk yX0_walk, Cond.initialized RX0, Cond.code yX0_walk cX0_walk 7 none, Cond.fieldLink RX0 12 "OrderMover$Base" "order" "LOrderMover$TermOrder;", Cond.fieldLink RX0 21 "OrderMover$Base" "members" "LOrderMover$Members;", Cond.fieldLink RX0 61 "OrderMover$Members" "howMany" "I", Cond.fieldLink RX0 28 "OrderMover$Base" "span" "LOrderMover$Span;", Cond.fieldLink RX0 65 "OrderMover$Quotient" "p" "I", Cond.fieldLink RX0 47 "OrderMover$Base" "border" "LOrderMover$Border;", Cond.fieldLink RX0 80 "OrderMover$Border" "xs" "[I", Cond.fieldLink RX0 83 "OrderMover$Border" "ys" "[I", Cond.methodLink RX0 57 yX10_become, Cond.instanceMethod yX10_become, Cond.selects RX10 yX10_become yX10_become]
def wsX2_bringUpToDate_r4 : List Cond := [Cond.initialized RX10, Cond.code yX10_become cX10_become 4 none, Cond.fieldLink RX10 16 "OrderMover$TermOrder" "kind" "I", Cond.fieldLink RX10 7 "OrderMover$TermOrder" "u" "I", Cond.fieldLink RX10 13 "OrderMover$TermOrder" "v" "I", Cond.methodLink RX0 70 yX9_begin, Cond.instanceMethod yX9_begin, Cond.selects RX9 yX9_begin yX9_begin, Cond.initialized RX9, Cond.code yX9_begin cX9_begin 2 none, Cond.fieldLink RX9 23 "OrderMover$Span" "howMany" "I", Cond.fieldLink RX9 27 "OrderMover$Span" "p" "I", Cond.methodLink RX0 74 yX1_begin, Cond.instanceMethod yX1_begin, Cond.selects RX1 yX1_begin yX1_begin, Cond.initialized RX1, Cond.code yX1_begin cX1_begin 1 none, Cond.fieldLink RX1 28 "OrderMover$Border" "howMany" "I", Cond.methodLink RX1 32 yX1_bring, Cond.instanceMethod yX1_bring, Cond.selects RX1 yX1_bring yX1_bring, Cond.code yX1_bring cX1_bring 5 none, Cond.fieldLink RX1 11 "OrderMover$Border" "xs" "[I", Cond.fieldLink RX1 15 "OrderMover$Border" "ys" "[I"]
def wsX2_bringUpToDate_r5 : List Cond := [Cond.fieldLink RX1 18 "OrderMover$Border" "below" "[I", Cond.fieldLink RX1 21 "OrderMover$Border" "unknowns" "[I", Cond.fieldLink RX1 24 "OrderMover$Border" "passed" "[Z", Cond.methodLink RX1 36 yX1_has, Cond.instanceMethod yX1_has, Cond.selects RX1 yX1_has yX1_has, Cond.code yX1_has cX1_has 4 (some .boolean), Cond.methodLink RX0 76 yX1_passLeast, Cond.instanceMethod yX1_passLeast, Cond.selects RX1 yX1_passLeast yX1_passLeast, Cond.code yX1_passLeast cX1_passLeast 4 (some .int), Cond.methodLink RX1 40 yX10_isLess, Cond.instanceMethod yX10_isLess, Cond.selects RX10 yX10_isLess yX10_isLess, Cond.code yX10_isLess cX10_isLess 10 (some .boolean), Cond.methodLink RX10 19 yX10_weight, Cond.instanceMethod yX10_weight, Cond.selects RX10 yX10_weight yX10_weight, Cond.code yX10_weight cX10_weight 3 (some .long), Cond.methodLink RX0 86 yX4_leadTo, Cond.instanceMethod yX4_leadTo, Cond.selects RX4 yX4_leadTo yX4_leadTo, Cond.initialized RX4, Cond.code yX4_leadTo cX4_leadTo 4 (some .boolean)]
def wsX2_bringUpToDate_r6 : List Cond := [Cond.fieldLink RX4 23 "OrderMover$Members" "howMany" "I", Cond.fieldLink RX4 9 "OrderMover$Members" "xs" "[I", Cond.fieldLink RX4 15 "OrderMover$Members" "ys" "[I", Cond.methodLink RX0 90 yX0_visit, Cond.instanceMethod yX0_visit, Cond.selects RX0 yX0_visit yX0_visit, Cond.code yX0_visit cX0_visit 6 none, Cond.fieldLink RX0 94 "OrderMover$Border" "below" "[I", Cond.fieldLink RX0 51 "OrderMover$Base" "rest" "[I", Cond.fieldLink RX0 101 "OrderMover$Border" "unknowns" "[I", Cond.fieldLink RX0 41 "OrderMover$Base" "vectors" "[[I", Cond.fieldLink RX0 108 "OrderMover$Span" "howMany" "I", Cond.fieldLink RX0 54 "OrderMover$Base" "share" "[I", Cond.fieldLink RX0 32 "OrderMover$Base" "stairXs" "[I", Cond.fieldLink RX0 36 "OrderMover$Base" "stairYs" "[I", Cond.methodLink RX0 97 yX6_toOne, Cond.instanceMethod yX6_toOne, Cond.selects RX6 yX6_toOne yX6_toOne, Cond.code yX6_toOne cX6_toOne 2 none, Cond.methodLink RX0 104 yX6_multiply, Cond.instanceMethod yX6_multiply, Cond.selects RX6 yX6_multiply yX6_multiply, Cond.code yX6_multiply cX6_multiply 7 none, Cond.fieldLink RX6 16 "OrderMover$Quotient" "moved" "[I"]
def wsX2_bringUpToDate_r7 : List Cond := [Cond.methodLink RX0 116 yX9_express, Cond.instanceMethod yX9_express, Cond.selects RX9 yX9_express yX9_express, Cond.code yX9_express cX9_express 5 none, Cond.fieldLink RX9 19 "OrderMover$Span" "pivots" "[I", Cond.fieldLink RX9 11 "OrderMover$Span" "rows" "[[I", Cond.fieldLink RX9 16 "OrderMover$Span" "shares" "[[I", Cond.static yX11_firstNotZero, Cond.code yX11_firstNotZero cX11_firstNotZero 2 (some .int), Cond.methodLink RX0 124 yX4_bring, Cond.instanceMethod yX4_bring, Cond.selects RX4 yX4_bring yX4_bring, Cond.code yX4_bring cX4_bring 5 none, Cond.fieldLink RX4 20 "OrderMover$Members" "tails" "[[I", Cond.methodLink RX0 128 yX9_absorb, Cond.instanceMethod yX9_absorb, Cond.selects RX9 yX9_absorb yX9_absorb, Cond.code yX9_absorb cX9_absorb 5 none, Cond.static yX11_inverse, Cond.code yX11_inverse cX11_inverse 3 (some .int), Cond.methodLink RX0 131 yX1_bring, Cond.methodLink RX2 82 yX3_readFrom, Cond.instanceMethod yX3_readFrom, Cond.selects RX3 yX3_readFrom yX3_readFrom]
def wsX2_bringUpToDate_r8 : List Cond := [Cond.initialized RX3, Cond.code yX3_readFrom cX3_readFrom 5 none, Cond.fieldLink RX3 27 "OrderMover$Least" "p" "I", Cond.methodLink RX3 31 Lib.Math.min.name, Cond.static Lib.Math.min.name, Cond.initialized "java/lang/Math", Cond.code Lib.Math.min.name Lib.Math.min.code 2 (some .int), Cond.fieldLink RX3 37 "OrderMover$Least" "high" "I", Cond.fieldLink RX3 9 "OrderMover$Least" "numbers" "[I", Cond.fieldLink RX3 40 "OrderMover$Members" "tails" "[[I"]
def wsX2_bringUpToDate : List Cond := .code yX2_bringUpToDate cX2_bringUpToDate 3 none :: ((wsX2_bringUpToDate_r1 ++ (wsX2_bringUpToDate_r2 ++ (wsX2_bringUpToDate_r3 ++ (wsX2_bringUpToDate_r4 ++ (wsX2_bringUpToDate_r5 ++ (wsX2_bringUpToDate_r6 ++ (wsX2_bringUpToDate_r7 ++ wsX2_bringUpToDate_r8))))))) ++ wsX20 ++ wsX70 ++ wsX00 ++ wsX40 ++ wsX60 ++ wsX10 ++ wsX100 ++ wsX90 ++ wsX30)
def wsX11_isWithin : List Cond := .code yX11_isWithin cX11_isWithin 3 (some .boolean) :: ([])
def wsX11_isOrder : List Cond := .code yX11_isOrder cX11_isOrder 1 (some .boolean) :: ([.methodLink RX11 88 yX11_isWithin, .static yX11_isWithin, .initialized RX11, .code yX11_isWithin cX11_isWithin 3 (some .boolean)])
def wsX2_baseOf_r1 : List Cond := [Cond.fieldLink RX2 33 "OrderMover$Ideal" "bases" "[LOrderMover$Base;", Cond.fieldLink RX2 37 "OrderMover$Ideal" "walked" "[Z", Cond.fieldLink RX2 12 "OrderMover$Ideal" "quotient" "LOrderMover$Quotient;", Cond.fieldLink RX2 58 "OrderMover$Setting" "u" "I", Cond.fieldLink RX2 63 "OrderMover$Setting" "v" "I", Cond.static yX11_isOrder, Cond.initialized RX11, Cond.code yX11_isOrder cX11_isOrder 1 (some .boolean), Cond.methodLink RX11 88 yX11_isWithin, Cond.static yX11_isWithin, Cond.code yX11_isWithin cX11_isWithin 3 (some .boolean), Cond.methodLink RX2 66 yX0_walk, Cond.instanceMethod yX0_walk, Cond.selects RX0 yX0_walk yX0_walk, Cond.initialized RX0, Cond.code yX0_walk cX0_walk 7 none, Cond.fieldLink RX0 12 "OrderMover$Base" "order" "LOrderMover$TermOrder;", Cond.fieldLink RX0 21 "OrderMover$Base" "members" "LOrderMover$Members;", Cond.fieldLink RX0 61 "OrderMover$Members" "howMany" "I", Cond.fieldLink RX0 28 "OrderMover$Base" "span" "LOrderMover$Span;", Cond.fieldLink RX0 65 "OrderMover$Quotient" "p" "I", Cond.fieldLink RX0 47 "OrderMover$Base" "border" "LOrderMover$Border;", Cond.fieldLink RX0 80 "OrderMover$Border" "xs" "[I", Cond.fieldLink RX0 83 "OrderMover$Border" "ys" "[I"]
def wsX2_baseOf_r2 : List Cond := [Cond.methodLink RX0 57 yX10_become, Cond.instanceMethod yX10_become, Cond.selects RX10 yX10_become yX10_become, Cond.initialized RX10, Cond.code yX10_become cX10_become 4 none, Cond.fieldLink RX10 16 "OrderMover$TermOrder" "kind" "I", Cond.fieldLink RX10 7 "OrderMover$TermOrder" "u" "I", Cond.fieldLink RX10 13 "OrderMover$TermOrder" "v" "I", Cond.methodLink RX0 70 yX9_begin, Cond.instanceMethod yX9_begin, Cond.selects RX9 yX9_begin yX9_begin, Cond.initialized RX9, Cond.code yX9_begin cX9_begin 2 none, Cond.fieldLink RX9 23 "OrderMover$Span" "howMany" "I", Cond.fieldLink RX9 27 "OrderMover$Span" "p" "I", Cond.methodLink RX0 74 yX1_begin, Cond.instanceMethod yX1_begin, Cond.selects RX1 yX1_begin yX1_begin, Cond.initialized RX1, Cond.code yX1_begin cX1_begin 1 none, Cond.fieldLink RX1 28 "OrderMover$Border" "howMany" "I", Cond.methodLink RX1 32 yX1_bring, Cond.instanceMethod yX1_bring, Cond.selects RX1 yX1_bring yX1_bring]
def wsX2_baseOf_r3 : List Cond := [Cond.code yX1_bring cX1_bring 5 none, Cond.fieldLink RX1 11 "OrderMover$Border" "xs" "[I", Cond.fieldLink RX1 15 "OrderMover$Border" "ys" "[I", Cond.fieldLink RX1 18 "OrderMover$Border" "below" "[I", Cond.fieldLink RX1 21 "OrderMover$Border" "unknowns" "[I", Cond.fieldLink RX1 24 "OrderMover$Border" "passed" "[Z", Cond.methodLink RX1 36 yX1_has, Cond.instanceMethod yX1_has, Cond.selects RX1 yX1_has yX1_has, Cond.code yX1_has cX1_has 4 (some .boolean), Cond.methodLink RX0 76 yX1_passLeast, Cond.instanceMethod yX1_passLeast, Cond.selects RX1 yX1_passLeast yX1_passLeast, Cond.code yX1_passLeast cX1_passLeast 4 (some .int), Cond.methodLink RX1 40 yX10_isLess, Cond.instanceMethod yX10_isLess, Cond.selects RX10 yX10_isLess yX10_isLess, Cond.code yX10_isLess cX10_isLess 10 (some .boolean), Cond.methodLink RX10 19 yX10_weight, Cond.instanceMethod yX10_weight, Cond.selects RX10 yX10_weight yX10_weight, Cond.code yX10_weight cX10_weight 3 (some .long), Cond.methodLink RX0 86 yX4_leadTo, Cond.instanceMethod yX4_leadTo]
def wsX2_baseOf_r4 : List Cond := [Cond.selects RX4 yX4_leadTo yX4_leadTo, Cond.initialized RX4, Cond.code yX4_leadTo cX4_leadTo 4 (some .boolean), Cond.fieldLink RX4 23 "OrderMover$Members" "howMany" "I", Cond.fieldLink RX4 9 "OrderMover$Members" "xs" "[I", Cond.fieldLink RX4 15 "OrderMover$Members" "ys" "[I", Cond.methodLink RX0 90 yX0_visit, Cond.instanceMethod yX0_visit, Cond.selects RX0 yX0_visit yX0_visit, Cond.code yX0_visit cX0_visit 6 none, Cond.fieldLink RX0 94 "OrderMover$Border" "below" "[I", Cond.fieldLink RX0 51 "OrderMover$Base" "rest" "[I", Cond.fieldLink RX0 101 "OrderMover$Border" "unknowns" "[I", Cond.fieldLink RX0 41 "OrderMover$Base" "vectors" "[[I", Cond.fieldLink RX0 108 "OrderMover$Span" "howMany" "I", Cond.fieldLink RX0 54 "OrderMover$Base" "share" "[I", Cond.fieldLink RX0 32 "OrderMover$Base" "stairXs" "[I", Cond.fieldLink RX0 36 "OrderMover$Base" "stairYs" "[I", Cond.methodLink RX0 97 yX6_toOne, Cond.instanceMethod yX6_toOne, Cond.selects RX6 yX6_toOne yX6_toOne, Cond.initialized RX6, Cond.code yX6_toOne cX6_toOne 2 none, Cond.static yX11_clear]
def wsX2_baseOf_r5 : List Cond := [Cond.code yX11_clear cX11_clear 2 none, Cond.methodLink RX0 104 yX6_multiply, Cond.instanceMethod yX6_multiply, Cond.selects RX6 yX6_multiply yX6_multiply, Cond.code yX6_multiply cX6_multiply 7 none, Cond.fieldLink RX6 16 "OrderMover$Quotient" "moved" "[I", Cond.fieldLink RX6 36 "OrderMover$Quotient" "height" "I", Cond.fieldLink RX6 30 "OrderMover$Quotient" "width" "I", Cond.fieldLink RX6 26 "OrderMover$Quotient" "p" "I", Cond.methodLink RX6 43 yX6_formAt, Cond.instanceMethod yX6_formAt, Cond.selects RX6 yX6_formAt yX6_formAt, Cond.code yX6_formAt cX6_formAt 4 (some (.array .int)), Cond.fieldLink RX6 13 "OrderMover$Quotient" "forms" "[[I", Cond.static yX11_bringMultiple, Cond.code yX11_bringMultiple cX11_bringMultiple 5 none, Cond.methodLink RX0 116 yX9_express, Cond.instanceMethod yX9_express, Cond.selects RX9 yX9_express yX9_express, Cond.code yX9_express cX9_express 5 none, Cond.fieldLink RX9 19 "OrderMover$Span" "pivots" "[I", Cond.fieldLink RX9 11 "OrderMover$Span" "rows" "[[I", Cond.fieldLink RX9 16 "OrderMover$Span" "shares" "[[I", Cond.static yX11_firstNotZero]
def wsX2_baseOf_r6 : List Cond := [Cond.code yX11_firstNotZero cX11_firstNotZero 2 (some .int), Cond.methodLink RX0 124 yX4_bring, Cond.instanceMethod yX4_bring, Cond.selects RX4 yX4_bring yX4_bring, Cond.code yX4_bring cX4_bring 5 none, Cond.fieldLink RX4 20 "OrderMover$Members" "tails" "[[I", Cond.methodLink RX0 128 yX9_absorb, Cond.instanceMethod yX9_absorb, Cond.selects RX9 yX9_absorb yX9_absorb, Cond.code yX9_absorb cX9_absorb 5 none, Cond.static yX11_inverse, Cond.code yX11_inverse cX11_inverse 3 (some .int), Cond.methodLink RX0 131 yX1_bring]
def wsX2_baseOf : List Cond := .code yX2_baseOf cX2_baseOf 3 (some (.object "OrderMover$Base")) :: ((wsX2_baseOf_r1 ++ (wsX2_baseOf_r2 ++ (wsX2_baseOf_r3 ++ (wsX2_baseOf_r4 ++ (wsX2_baseOf_r5 ++ wsX2_baseOf_r6))))) ++ wsX20 ++ wsX70 ++ wsX00 ++ wsX40 ++ wsX60 ++ wsX10 ++ wsX100 ++ wsX90)
def wsX3_squareRaised : List Cond := .code yX3_squareRaised cX3_squareRaised 3 none :: ([.fieldLink RX3 18 "OrderMover$Least" "square" "[I", .fieldLink RX3 37 "OrderMover$Least" "high" "I", .fieldLink RX3 15 "OrderMover$Least" "raised" "[I", .fieldLink RX3 27 "OrderMover$Least" "p" "I", .fieldLink RX3 9 "OrderMover$Least" "numbers" "[I", .static yX11_clear, .initialized RX11, .code yX11_clear cX11_clear 2 none, .static yX11_leftOver, .code yX11_leftOver cX11_leftOver 3 (some .int)] ++ wsX30)
def wsX3_shiftRaised : List Cond := .code yX3_shiftRaised cX3_shiftRaised 3 none :: ([.fieldLink RX3 37 "OrderMover$Least" "high" "I", .fieldLink RX3 15 "OrderMover$Least" "raised" "[I", .fieldLink RX3 9 "OrderMover$Least" "numbers" "[I", .fieldLink RX3 27 "OrderMover$Least" "p" "I", .static yX11_leftOver, .initialized RX11, .code yX11_leftOver cX11_leftOver 3 (some .int)] ++ wsX30)
def wsX3_raise : List Cond := .code yX3_raise cX3_raise 4 none :: ([.fieldLink RX3 15 "OrderMover$Least" "raised" "[I", .static yX11_clear, .initialized RX11, .code yX11_clear cX11_clear 2 none, .methodLink RX3 53 yX3_squareRaised, .instanceMethod yX3_squareRaised, .selects RX3 yX3_squareRaised yX3_squareRaised, .initialized RX3, .code yX3_squareRaised cX3_squareRaised 3 none, .fieldLink RX3 18 "OrderMover$Least" "square" "[I", .fieldLink RX3 37 "OrderMover$Least" "high" "I", .fieldLink RX3 27 "OrderMover$Least" "p" "I", .fieldLink RX3 9 "OrderMover$Least" "numbers" "[I", .static yX11_leftOver, .code yX11_leftOver cX11_leftOver 3 (some .int), .methodLink RX3 56 yX3_shiftRaised, .instanceMethod yX3_shiftRaised, .selects RX3 yX3_shiftRaised yX3_shiftRaised, .code yX3_shiftRaised cX3_shiftRaised 3 none] ++ wsX30)
def wsX11_highestNotZero : List Cond := .code yX11_highestNotZero cX11_highestNotZero 3 (some .int) :: ([.methodLink RX11 355 Lib.Math.min.name, .static Lib.Math.min.name, .initialized "java/lang/Math", .code Lib.Math.min.name Lib.Math.min.code 2 (some .int)])
def wsX6_multiplyByPolynomial_r1 : List Cond := [Cond.fieldLink RX6 26 "OrderMover$Quotient" "p" "I", Cond.static yX11_clear, Cond.initialized RX11, Cond.code yX11_clear cX11_clear 2 none, Cond.static yX11_highestNotZero, Cond.code yX11_highestNotZero cX11_highestNotZero 3 (some .int), Cond.methodLink RX11 355 Lib.Math.min.name, Cond.static Lib.Math.min.name, Cond.initialized "java/lang/Math", Cond.code Lib.Math.min.name Lib.Math.min.code 2 (some .int), Cond.methodLink RX6 75 yX6_multiply, Cond.instanceMethod yX6_multiply, Cond.selects RX6 yX6_multiply yX6_multiply, Cond.initialized RX6, Cond.code yX6_multiply cX6_multiply 7 none, Cond.fieldLink RX6 16 "OrderMover$Quotient" "moved" "[I", Cond.fieldLink RX6 36 "OrderMover$Quotient" "height" "I", Cond.fieldLink RX6 30 "OrderMover$Quotient" "width" "I", Cond.methodLink RX6 43 yX6_formAt, Cond.instanceMethod yX6_formAt, Cond.selects RX6 yX6_formAt yX6_formAt, Cond.code yX6_formAt cX6_formAt 4 (some (.array .int)), Cond.fieldLink RX6 13 "OrderMover$Quotient" "forms" "[[I", Cond.static yX11_bringMultiple]
def wsX6_multiplyByPolynomial_r2 : List Cond := [Cond.code yX11_bringMultiple cX11_bringMultiple 5 none]
def wsX6_multiplyByPolynomial : List Cond := .code yX6_multiplyByPolynomial cX6_multiplyByPolynomial 6 none :: ((wsX6_multiplyByPolynomial_r1 ++ wsX6_multiplyByPolynomial_r2) ++ wsX60)
def wsX2_vectorOfTerm_r1 : List Cond := [Cond.fieldLink RX2 20 "OrderMover$Ideal" "leasts" "[LOrderMover$Least;", Cond.fieldLink RX2 12 "OrderMover$Ideal" "quotient" "LOrderMover$Quotient;", Cond.fieldLink RX2 101 "OrderMover$Least" "raised" "[I", Cond.fieldLink RX2 45 "OrderMover$Ideal" "partial" "[I", Cond.methodLink RX2 93 yX3_raise, Cond.instanceMethod yX3_raise, Cond.selects RX3 yX3_raise yX3_raise, Cond.initialized RX3, Cond.code yX3_raise cX3_raise 4 none, Cond.fieldLink RX3 15 "OrderMover$Least" "raised" "[I", Cond.static yX11_clear, Cond.initialized RX11, Cond.code yX11_clear cX11_clear 2 none, Cond.methodLink RX3 53 yX3_squareRaised, Cond.instanceMethod yX3_squareRaised, Cond.selects RX3 yX3_squareRaised yX3_squareRaised, Cond.code yX3_squareRaised cX3_squareRaised 3 none, Cond.fieldLink RX3 18 "OrderMover$Least" "square" "[I", Cond.fieldLink RX3 37 "OrderMover$Least" "high" "I", Cond.fieldLink RX3 27 "OrderMover$Least" "p" "I", Cond.fieldLink RX3 9 "OrderMover$Least" "numbers" "[I", Cond.static yX11_leftOver, Cond.code yX11_leftOver cX11_leftOver 3 (some .int), Cond.methodLink RX3 56 yX3_shiftRaised]
def wsX2_vectorOfTerm_r2 : List Cond := [Cond.instanceMethod yX3_shiftRaised, Cond.selects RX3 yX3_shiftRaised yX3_shiftRaised, Cond.code yX3_shiftRaised cX3_shiftRaised 3 none, Cond.methodLink RX2 97 yX6_toOne, Cond.instanceMethod yX6_toOne, Cond.selects RX6 yX6_toOne yX6_toOne, Cond.initialized RX6, Cond.code yX6_toOne cX6_toOne 2 none, Cond.methodLink RX2 104 yX6_multiplyByPolynomial, Cond.instanceMethod yX6_multiplyByPolynomial, Cond.selects RX6 yX6_multiplyByPolynomial yX6_multiplyByPolynomial, Cond.code yX6_multiplyByPolynomial cX6_multiplyByPolynomial 6 none, Cond.fieldLink RX6 26 "OrderMover$Quotient" "p" "I", Cond.static yX11_highestNotZero, Cond.code yX11_highestNotZero cX11_highestNotZero 3 (some .int), Cond.methodLink RX11 355 Lib.Math.min.name, Cond.static Lib.Math.min.name, Cond.initialized "java/lang/Math", Cond.code Lib.Math.min.name Lib.Math.min.code 2 (some .int), Cond.methodLink RX6 75 yX6_multiply, Cond.instanceMethod yX6_multiply, Cond.selects RX6 yX6_multiply yX6_multiply, Cond.code yX6_multiply cX6_multiply 7 none, Cond.fieldLink RX6 16 "OrderMover$Quotient" "moved" "[I"]
def wsX2_vectorOfTerm_r3 : List Cond := [Cond.fieldLink RX6 36 "OrderMover$Quotient" "height" "I", Cond.fieldLink RX6 30 "OrderMover$Quotient" "width" "I", Cond.methodLink RX6 43 yX6_formAt, Cond.instanceMethod yX6_formAt, Cond.selects RX6 yX6_formAt yX6_formAt, Cond.code yX6_formAt cX6_formAt 4 (some (.array .int)), Cond.fieldLink RX6 13 "OrderMover$Quotient" "forms" "[[I", Cond.static yX11_bringMultiple, Cond.code yX11_bringMultiple cX11_bringMultiple 5 none]
def wsX2_vectorOfTerm : List Cond := .code yX2_vectorOfTerm cX2_vectorOfTerm 4 none :: ((wsX2_vectorOfTerm_r1 ++ (wsX2_vectorOfTerm_r2 ++ wsX2_vectorOfTerm_r3)) ++ wsX20 ++ wsX30 ++ wsX60)
def wsX2_isPlain : List Cond := .code yX2_isPlain cX2_isPlain 2 (some .boolean) :: ([.fieldLink RX2 33 "OrderMover$Ideal" "bases" "[LOrderMover$Base;", .fieldLink RX2 108 "OrderMover$Base" "span" "LOrderMover$Span;", .fieldLink RX2 112 "OrderMover$Span" "howMany" "I", .fieldLink RX2 117 "OrderMover$Base" "stairXs" "[I", .fieldLink RX2 70 "OrderMover$Base" "members" "LOrderMover$Members;", .fieldLink RX2 120 "OrderMover$Members" "howMany" "I"] ++ wsX20 ++ wsX00 ++ wsX90 ++ wsX40)
def wsX3_divideOut : List Cond := .code yX3_divideOut cX3_divideOut 9 none :: ([.fieldLink RX3 27 "OrderMover$Least" "p" "I", .static yX11_inverse, .initialized RX11, .code yX11_inverse cX11_inverse 3 (some .int), .static yX11_leftOver, .code yX11_leftOver cX11_leftOver 3 (some .int)] ++ wsX30)
def wsX3_hasNoFactorTwice : List Cond := .code yX3_hasNoFactorTwice cX3_hasNoFactorTwice 7 (some .boolean) :: ([.fieldLink RX3 37 "OrderMover$Least" "high" "I", .fieldLink RX3 21 "OrderMover$Least" "one" "[I", .fieldLink RX3 9 "OrderMover$Least" "numbers" "[I", .fieldLink RX3 24 "OrderMover$Least" "other" "[I", .fieldLink RX3 27 "OrderMover$Least" "p" "I", .static yX11_leftOver, .initialized RX11, .code yX11_leftOver cX11_leftOver 3 (some .int), .static yX11_highestNotZero, .code yX11_highestNotZero cX11_highestNotZero 3 (some .int), .methodLink RX11 355 Lib.Math.min.name, .static Lib.Math.min.name, .initialized "java/lang/Math", .code Lib.Math.min.name Lib.Math.min.code 2 (some .int), .methodLink RX3 63 yX3_divideOut, .instanceMethod yX3_divideOut, .selects RX3 yX3_divideOut yX3_divideOut, .initialized RX3, .code yX3_divideOut cX3_divideOut 9 none, .static yX11_inverse, .code yX11_inverse cX11_inverse 3 (some .int)] ++ wsX30)
def wsX2_isRadical_r1 : List Cond := [Cond.fieldLink RX2 20 "OrderMover$Ideal" "leasts" "[LOrderMover$Least;", Cond.methodLink RX2 121 yX3_hasNoFactorTwice, Cond.instanceMethod yX3_hasNoFactorTwice, Cond.selects RX3 yX3_hasNoFactorTwice yX3_hasNoFactorTwice, Cond.initialized RX3, Cond.code yX3_hasNoFactorTwice cX3_hasNoFactorTwice 7 (some .boolean), Cond.fieldLink RX3 37 "OrderMover$Least" "high" "I", Cond.fieldLink RX3 21 "OrderMover$Least" "one" "[I", Cond.fieldLink RX3 9 "OrderMover$Least" "numbers" "[I", Cond.fieldLink RX3 24 "OrderMover$Least" "other" "[I", Cond.fieldLink RX3 27 "OrderMover$Least" "p" "I", Cond.static yX11_leftOver, Cond.initialized RX11, Cond.code yX11_leftOver cX11_leftOver 3 (some .int), Cond.static yX11_highestNotZero, Cond.code yX11_highestNotZero cX11_highestNotZero 3 (some .int), Cond.methodLink RX11 355 Lib.Math.min.name, Cond.static Lib.Math.min.name, Cond.initialized "java/lang/Math", Cond.code Lib.Math.min.name Lib.Math.min.code 2 (some .int), Cond.methodLink RX3 63 yX3_divideOut, Cond.instanceMethod yX3_divideOut, Cond.selects RX3 yX3_divideOut yX3_divideOut, Cond.code yX3_divideOut cX3_divideOut 9 none]
def wsX2_isRadical_r2 : List Cond := [Cond.static yX11_inverse, Cond.code yX11_inverse cX11_inverse 3 (some .int)]
def wsX2_isRadical : List Cond := .code yX2_isRadical cX2_isRadical 1 (some .boolean) :: ((wsX2_isRadical_r1 ++ wsX2_isRadical_r2) ++ wsX20 ++ wsX30)
def wsX3_isZeroAt : List Cond := .code yX3_isZeroAt cX3_isZeroAt 4 (some .boolean) :: ([.fieldLink RX3 37 "OrderMover$Least" "high" "I", .fieldLink RX3 9 "OrderMover$Least" "numbers" "[I", .fieldLink RX3 27 "OrderMover$Least" "p" "I", .static yX11_leftOver, .initialized RX11, .code yX11_leftOver cX11_leftOver 3 (some .int)] ++ wsX30)
def wsX7_isZeroAt : List Cond := .code yX7_isZeroAt cX7_isZeroAt 11 (some .boolean) :: ([.fieldLink RX7 9 "OrderMover$Setting" "p" "I", .methodLink RX7 46 yX7_coefficients, .instanceMethod yX7_coefficients, .selects RX7 yX7_coefficients yX7_coefficients, .initialized RX7, .code yX7_coefficients cX7_coefficients 2 (some (.array .int)), .fieldLink RX7 27 "OrderMover$Setting" "first" "[I", .fieldLink RX7 31 "OrderMover$Setting" "second" "[I", .methodLink RX7 38 yX7_power, .instanceMethod yX7_power, .selects RX7 yX7_power yX7_power, .code yX7_power cX7_power 2 (some .int), .fieldLink RX7 15 "OrderMover$Setting" "a" "I", .fieldLink RX7 18 "OrderMover$Setting" "b" "I", .static yX11_leftOver, .initialized RX11, .code yX11_leftOver cX11_leftOver 3 (some .int)] ++ wsX70)
def wsX2_findRootsAt_r1 : List Cond := [Cond.fieldLink RX2 79 "OrderMover$Setting" "p" "I", Cond.fieldLink RX2 20 "OrderMover$Ideal" "leasts" "[LOrderMover$Least;", Cond.fieldLink RX2 41 "OrderMover$Ideal" "roots" "I", Cond.fieldLink RX2 24 "OrderMover$Ideal" "rootXs" "[I", Cond.fieldLink RX2 28 "OrderMover$Ideal" "rootYs" "[I", Cond.methodLink RX2 125 yX3_isZeroAt, Cond.instanceMethod yX3_isZeroAt, Cond.selects RX3 yX3_isZeroAt yX3_isZeroAt, Cond.initialized RX3, Cond.code yX3_isZeroAt cX3_isZeroAt 4 (some .boolean), Cond.fieldLink RX3 37 "OrderMover$Least" "high" "I", Cond.fieldLink RX3 9 "OrderMover$Least" "numbers" "[I", Cond.fieldLink RX3 27 "OrderMover$Least" "p" "I", Cond.static yX11_leftOver, Cond.initialized RX11, Cond.code yX11_leftOver cX11_leftOver 3 (some .int), Cond.methodLink RX2 132 yX7_isZeroAt, Cond.instanceMethod yX7_isZeroAt, Cond.selects RX7 yX7_isZeroAt yX7_isZeroAt, Cond.initialized RX7, Cond.code yX7_isZeroAt cX7_isZeroAt 11 (some .boolean), Cond.fieldLink RX7 9 "OrderMover$Setting" "p" "I", Cond.methodLink RX7 46 yX7_coefficients, Cond.instanceMethod yX7_coefficients]
def wsX2_findRootsAt_r2 : List Cond := [Cond.selects RX7 yX7_coefficients yX7_coefficients, Cond.code yX7_coefficients cX7_coefficients 2 (some (.array .int)), Cond.fieldLink RX7 27 "OrderMover$Setting" "first" "[I", Cond.fieldLink RX7 31 "OrderMover$Setting" "second" "[I", Cond.methodLink RX7 38 yX7_power, Cond.instanceMethod yX7_power, Cond.selects RX7 yX7_power yX7_power, Cond.code yX7_power cX7_power 2 (some .int), Cond.fieldLink RX7 15 "OrderMover$Setting" "a" "I", Cond.fieldLink RX7 18 "OrderMover$Setting" "b" "I"]
def wsX2_findRootsAt : List Cond := .code yX2_findRootsAt cX2_findRootsAt 5 none :: ((wsX2_findRootsAt_r1 ++ wsX2_findRootsAt_r2) ++ wsX70 ++ wsX20 ++ wsX30)
def wsX2_countRoots_r1 : List Cond := [Cond.fieldLink RX2 41 "OrderMover$Ideal" "roots" "I", Cond.fieldLink RX2 79 "OrderMover$Setting" "p" "I", Cond.fieldLink RX2 20 "OrderMover$Ideal" "leasts" "[LOrderMover$Least;", Cond.methodLink RX2 125 yX3_isZeroAt, Cond.instanceMethod yX3_isZeroAt, Cond.selects RX3 yX3_isZeroAt yX3_isZeroAt, Cond.initialized RX3, Cond.code yX3_isZeroAt cX3_isZeroAt 4 (some .boolean), Cond.fieldLink RX3 37 "OrderMover$Least" "high" "I", Cond.fieldLink RX3 9 "OrderMover$Least" "numbers" "[I", Cond.fieldLink RX3 27 "OrderMover$Least" "p" "I", Cond.static yX11_leftOver, Cond.initialized RX11, Cond.code yX11_leftOver cX11_leftOver 3 (some .int), Cond.methodLink RX2 128 yX2_findRootsAt, Cond.instanceMethod yX2_findRootsAt, Cond.selects RX2 yX2_findRootsAt yX2_findRootsAt, Cond.initialized RX2, Cond.code yX2_findRootsAt cX2_findRootsAt 5 none, Cond.fieldLink RX2 24 "OrderMover$Ideal" "rootXs" "[I", Cond.fieldLink RX2 28 "OrderMover$Ideal" "rootYs" "[I", Cond.methodLink RX2 132 yX7_isZeroAt, Cond.instanceMethod yX7_isZeroAt, Cond.selects RX7 yX7_isZeroAt yX7_isZeroAt]
def wsX2_countRoots_r2 : List Cond := [Cond.initialized RX7, Cond.code yX7_isZeroAt cX7_isZeroAt 11 (some .boolean), Cond.fieldLink RX7 9 "OrderMover$Setting" "p" "I", Cond.methodLink RX7 46 yX7_coefficients, Cond.instanceMethod yX7_coefficients, Cond.selects RX7 yX7_coefficients yX7_coefficients, Cond.code yX7_coefficients cX7_coefficients 2 (some (.array .int)), Cond.fieldLink RX7 27 "OrderMover$Setting" "first" "[I", Cond.fieldLink RX7 31 "OrderMover$Setting" "second" "[I", Cond.methodLink RX7 38 yX7_power, Cond.instanceMethod yX7_power, Cond.selects RX7 yX7_power yX7_power, Cond.code yX7_power cX7_power 2 (some .int), Cond.fieldLink RX7 15 "OrderMover$Setting" "a" "I", Cond.fieldLink RX7 18 "OrderMover$Setting" "b" "I"]
def wsX2_countRoots : List Cond := .code yX2_countRoots cX2_countRoots 3 (some .int) :: ((wsX2_countRoots_r1 ++ wsX2_countRoots_r2) ++ wsX20 ++ wsX70 ++ wsX30)
def wsX4_greatestSum : List Cond := .code yX4_greatestSum cX4_greatestSum 3 (some .int) :: ([.fieldLink RX4 23 "OrderMover$Members" "howMany" "I", .fieldLink RX4 9 "OrderMover$Members" "xs" "[I", .fieldLink RX4 15 "OrderMover$Members" "ys" "[I", .methodLink RX4 35 Lib.Math.max.name, .static Lib.Math.max.name, .initialized "java/lang/Math", .code Lib.Math.max.name Lib.Math.max.code 2 (some .int)] ++ wsX40)
def wsX4_countTerms : List Cond := .code yX4_countTerms cX4_countTerms 4 (some .int) :: ([.fieldLink RX4 20 "OrderMover$Members" "tails" "[[I"] ++ wsX40)
def wsX4_moveToField : List Cond := .code yX4_moveToField cX4_moveToField 4 none :: ([.fieldLink RX4 23 "OrderMover$Members" "howMany" "I", .fieldLink RX4 20 "OrderMover$Members" "tails" "[[I", .static yX11_leftOver, .initialized RX11, .code yX11_leftOver cX11_leftOver 3 (some .int)] ++ wsX40)
def wsX4_copyFrom : List Cond := .code yX4_copyFrom cX4_copyFrom 4 none :: ([.fieldLink RX4 23 "OrderMover$Members" "howMany" "I", .fieldLink RX4 9 "OrderMover$Members" "xs" "[I", .fieldLink RX4 15 "OrderMover$Members" "ys" "[I", .fieldLink RX4 20 "OrderMover$Members" "tails" "[[I"] ++ wsX40)
def wsX4_hasTail : List Cond := .code yX4_hasTail cX4_hasTail 4 (some .boolean) :: ([.fieldLink RX4 20 "OrderMover$Members" "tails" "[[I"] ++ wsX40)
def wsX4_isAs : List Cond := .code yX4_isAs cX4_isAs 3 (some .boolean) :: ([.fieldLink RX4 23 "OrderMover$Members" "howMany" "I", .fieldLink RX4 9 "OrderMover$Members" "xs" "[I", .fieldLink RX4 15 "OrderMover$Members" "ys" "[I", .fieldLink RX4 20 "OrderMover$Members" "tails" "[[I", .methodLink RX4 44 yX4_hasTail, .instanceMethod yX4_hasTail, .selects RX4 yX4_hasTail yX4_hasTail, .initialized RX4, .code yX4_hasTail cX4_hasTail 4 (some .boolean)] ++ wsX40)
def wsX5_init : List Cond := .code yX5_init cX5_init 3 none :: ([.methodLink RX5 3 objectInit, .instanceMethod objectInit, .code objectInit ⟨#[0xb1]⟩ 1 none, .methodLink RX5 9 Lib.Math.max.name, .static Lib.Math.max.name, .initialized "java/lang/Math", .code Lib.Math.max.name Lib.Math.max.code 2 (some .int), .arrayClass .int, .fieldLink RX5 15 "OrderMover$Polynomial" "numbers" "[I", .fieldLink RX5 21 "OrderMover$Polynomial" "xs" "[I", .fieldLink RX5 24 "OrderMover$Polynomial" "ys" "[I"] ++ wsX50)
def wsX5_empty : List Cond := .code yX5_empty cX5_empty 1 none :: ([.fieldLink RX5 27 "OrderMover$Polynomial" "howMany" "I"] ++ wsX50)
def wsX5_copyFrom : List Cond := .code yX5_copyFrom cX5_copyFrom 3 none :: ([.fieldLink RX5 27 "OrderMover$Polynomial" "howMany" "I", .fieldLink RX5 15 "OrderMover$Polynomial" "numbers" "[I", .methodLink RX5 31 Lib.Math.min.name, .static Lib.Math.min.name, .initialized "java/lang/Math", .code Lib.Math.min.name Lib.Math.min.code 2 (some .int), .fieldLink RX5 21 "OrderMover$Polynomial" "xs" "[I", .fieldLink RX5 24 "OrderMover$Polynomial" "ys" "[I"] ++ wsX50)
def wsX5_takeZerosAway : List Cond := .code yX5_takeZerosAway cX5_takeZerosAway 3 none :: ([.fieldLink RX5 27 "OrderMover$Polynomial" "howMany" "I", .fieldLink RX5 15 "OrderMover$Polynomial" "numbers" "[I", .fieldLink RX5 21 "OrderMover$Polynomial" "xs" "[I", .fieldLink RX5 24 "OrderMover$Polynomial" "ys" "[I"] ++ wsX50)
def wsX5_insert : List Cond := .code yX5_insert cX5_insert 6 none :: ([.fieldLink RX5 27 "OrderMover$Polynomial" "howMany" "I", .fieldLink RX5 15 "OrderMover$Polynomial" "numbers" "[I", .fieldLink RX5 21 "OrderMover$Polynomial" "xs" "[I", .fieldLink RX5 24 "OrderMover$Polynomial" "ys" "[I"] ++ wsX50)
def wsX5_bring : List Cond := .code yX5_bring cX5_bring 6 none :: ([.fieldLink RX5 27 "OrderMover$Polynomial" "howMany" "I", .fieldLink RX5 21 "OrderMover$Polynomial" "xs" "[I", .fieldLink RX5 24 "OrderMover$Polynomial" "ys" "[I", .fieldLink RX5 15 "OrderMover$Polynomial" "numbers" "[I", .static yX11_leftOver, .initialized RX11, .code yX11_leftOver cX11_leftOver 3 (some .int), .methodLink RX5 37 yX5_takeZerosAway, .instanceMethod yX5_takeZerosAway, .selects RX5 yX5_takeZerosAway yX5_takeZerosAway, .initialized RX5, .code yX5_takeZerosAway cX5_takeZerosAway 3 none, .methodLink RX5 40 yX5_insert, .instanceMethod yX5_insert, .selects RX5 yX5_insert yX5_insert, .code yX5_insert cX5_insert 6 none] ++ wsX50)
def wsX5_bringAll : List Cond := .code yX5_bringAll cX5_bringAll 5 none :: ([.fieldLink RX5 27 "OrderMover$Polynomial" "howMany" "I", .fieldLink RX5 15 "OrderMover$Polynomial" "numbers" "[I", .fieldLink RX5 21 "OrderMover$Polynomial" "xs" "[I", .fieldLink RX5 24 "OrderMover$Polynomial" "ys" "[I", .static yX11_leftOver, .initialized RX11, .code yX11_leftOver cX11_leftOver 3 (some .int), .methodLink RX5 44 yX5_bring, .instanceMethod yX5_bring, .selects RX5 yX5_bring yX5_bring, .initialized RX5, .code yX5_bring cX5_bring 6 none, .methodLink RX5 37 yX5_takeZerosAway, .instanceMethod yX5_takeZerosAway, .selects RX5 yX5_takeZerosAway yX5_takeZerosAway, .code yX5_takeZerosAway cX5_takeZerosAway 3 none, .methodLink RX5 40 yX5_insert, .instanceMethod yX5_insert, .selects RX5 yX5_insert yX5_insert, .code yX5_insert cX5_insert 6 none] ++ wsX50)
def wsX5_moveToField : List Cond := .code yX5_moveToField cX5_moveToField 3 none :: ([.fieldLink RX5 27 "OrderMover$Polynomial" "howMany" "I", .fieldLink RX5 15 "OrderMover$Polynomial" "numbers" "[I", .static yX11_leftOver, .initialized RX11, .code yX11_leftOver cX11_leftOver 3 (some .int), .methodLink RX5 37 yX5_takeZerosAway, .instanceMethod yX5_takeZerosAway, .selects RX5 yX5_takeZerosAway yX5_takeZerosAway, .initialized RX5, .code yX5_takeZerosAway cX5_takeZerosAway 3 none, .fieldLink RX5 21 "OrderMover$Polynomial" "xs" "[I", .fieldLink RX5 24 "OrderMover$Polynomial" "ys" "[I"] ++ wsX50)
def wsX5_canRise : List Cond := .code yX5_canRise cX5_canRise 4 (some .boolean) :: ([.fieldLink RX5 27 "OrderMover$Polynomial" "howMany" "I", .fieldLink RX5 21 "OrderMover$Polynomial" "xs" "[I", .constant RX5 47 (2147483647), .fieldLink RX5 24 "OrderMover$Polynomial" "ys" "[I"] ++ wsX50)
def wsX5_rise : List Cond := .code yX5_rise cX5_rise 4 none :: ([.fieldLink RX5 27 "OrderMover$Polynomial" "howMany" "I", .fieldLink RX5 21 "OrderMover$Polynomial" "xs" "[I", .fieldLink RX5 24 "OrderMover$Polynomial" "ys" "[I"] ++ wsX50)
def wsX5_greatestSum : List Cond := .code yX5_greatestSum cX5_greatestSum 4 (some .long) :: ([.fieldLink RX5 27 "OrderMover$Polynomial" "howMany" "I", .fieldLink RX5 21 "OrderMover$Polynomial" "xs" "[I", .fieldLink RX5 24 "OrderMover$Polynomial" "ys" "[I", .methodLink RX5 48 Lib.MathLoose.max_long.x, .static Lib.MathLoose.max_long.x, .initialized "java/lang/Math", .code Lib.MathLoose.max_long.x Lib.MathLoose.max_long.code 4 (some .long)] ++ wsX50)
def wsX5_canCompare : List Cond := .code yX5_canCompare cX5_canCompare 3 (some .boolean) :: ([.fieldLink RX5 27 "OrderMover$Polynomial" "howMany" "I", .fieldLink RX5 21 "OrderMover$Polynomial" "xs" "[I", .fieldLink RX5 24 "OrderMover$Polynomial" "ys" "[I", .constantLong RX5 57 (2147483647), .methodLink RX5 51 yX10_weight, .instanceMethod yX10_weight, .selects RX10 yX10_weight yX10_weight, .initialized RX10, .code yX10_weight cX10_weight 3 (some .long), .fieldLink RX10 16 "OrderMover$TermOrder" "kind" "I", .fieldLink RX10 7 "OrderMover$TermOrder" "u" "I", .fieldLink RX10 13 "OrderMover$TermOrder" "v" "I"] ++ wsX50 ++ wsX100)
def wsX5_greatestIn : List Cond := .code yX5_greatestIn cX5_greatestIn 4 (some .int) :: ([.fieldLink RX5 27 "OrderMover$Polynomial" "howMany" "I", .fieldLink RX5 21 "OrderMover$Polynomial" "xs" "[I", .fieldLink RX5 24 "OrderMover$Polynomial" "ys" "[I", .methodLink RX5 59 yX10_isLess, .instanceMethod yX10_isLess, .selects RX10 yX10_isLess yX10_isLess, .initialized RX10, .code yX10_isLess cX10_isLess 10 (some .boolean), .fieldLink RX10 16 "OrderMover$TermOrder" "kind" "I", .methodLink RX10 19 yX10_weight, .instanceMethod yX10_weight, .selects RX10 yX10_weight yX10_weight, .code yX10_weight cX10_weight 3 (some .long), .fieldLink RX10 7 "OrderMover$TermOrder" "u" "I", .fieldLink RX10 13 "OrderMover$TermOrder" "v" "I"] ++ wsX50 ++ wsX100)
def wsX7_init : List Cond := .code yX7_init cX7_init 1 none :: ([.methodLink RX7 3 objectInit, .instanceMethod objectInit, .code objectInit ⟨#[0xb1]⟩ 1 none, .fieldLink RX7 9 "OrderMover$Setting" "p" "I", .fieldLink RX7 15 "OrderMover$Setting" "a" "I", .fieldLink RX7 18 "OrderMover$Setting" "b" "I", .fieldLink RX7 21 "OrderMover$Setting" "u" "I", .fieldLink RX7 24 "OrderMover$Setting" "v" "I", .arrayClass .int, .fieldLink RX7 27 "OrderMover$Setting" "first" "[I", .fieldLink RX7 31 "OrderMover$Setting" "second" "[I"] ++ wsX70)
def wsX7_dimension : List Cond := .code yX7_dimension cX7_dimension 1 (some .int) :: ([.fieldLink RX7 15 "OrderMover$Setting" "a" "I", .fieldLink RX7 18 "OrderMover$Setting" "b" "I"] ++ wsX70)
def wsX11_isUnknown : List Cond := .code yX11_isUnknown cX11_isUnknown 1 (some .boolean) :: ([.methodLink RX11 88 yX11_isWithin, .static yX11_isWithin, .initialized RX11, .code yX11_isWithin cX11_isWithin 3 (some .boolean)])
def wsX7_hasCoefficient : List Cond := .code yX7_hasCoefficient cX7_hasCoefficient 4 (some .boolean) :: ([.static yX11_isUnknown, .initialized RX11, .code yX11_isUnknown cX11_isUnknown 1 (some .boolean), .methodLink RX11 88 yX11_isWithin, .static yX11_isWithin, .code yX11_isWithin cX11_isWithin 3 (some .boolean), .methodLink RX7 38 yX7_power, .instanceMethod yX7_power, .selects RX7 yX7_power yX7_power, .initialized RX7, .code yX7_power cX7_power 2 (some .int), .fieldLink RX7 15 "OrderMover$Setting" "a" "I", .fieldLink RX7 18 "OrderMover$Setting" "b" "I"] ++ wsX70)
def wsX7_coefficient : List Cond := .code yX7_coefficient cX7_coefficient 4 (some .int) :: ([.methodLink RX7 42 yX7_hasCoefficient, .instanceMethod yX7_hasCoefficient, .selects RX7 yX7_hasCoefficient yX7_hasCoefficient, .initialized RX7, .code yX7_hasCoefficient cX7_hasCoefficient 4 (some .boolean), .static yX11_isUnknown, .initialized RX11, .code yX11_isUnknown cX11_isUnknown 1 (some .boolean), .methodLink RX11 88 yX11_isWithin, .static yX11_isWithin, .code yX11_isWithin cX11_isWithin 3 (some .boolean), .methodLink RX7 38 yX7_power, .instanceMethod yX7_power, .selects RX7 yX7_power yX7_power, .code yX7_power cX7_power 2 (some .int), .fieldLink RX7 15 "OrderMover$Setting" "a" "I", .fieldLink RX7 18 "OrderMover$Setting" "b" "I", .methodLink RX7 46 yX7_coefficients, .instanceMethod yX7_coefficients, .selects RX7 yX7_coefficients yX7_coefficients, .code yX7_coefficients cX7_coefficients 2 (some (.array .int)), .fieldLink RX7 27 "OrderMover$Setting" "first" "[I", .fieldLink RX7 31 "OrderMover$Setting" "second" "[I"] ++ wsX70)
def wsX7_change : List Cond := .code yX7_change cX7_change 5 none :: ([.methodLink RX7 42 yX7_hasCoefficient, .instanceMethod yX7_hasCoefficient, .selects RX7 yX7_hasCoefficient yX7_hasCoefficient, .initialized RX7, .code yX7_hasCoefficient cX7_hasCoefficient 4 (some .boolean), .static yX11_isUnknown, .initialized RX11, .code yX11_isUnknown cX11_isUnknown 1 (some .boolean), .methodLink RX11 88 yX11_isWithin, .static yX11_isWithin, .code yX11_isWithin cX11_isWithin 3 (some .boolean), .methodLink RX7 38 yX7_power, .instanceMethod yX7_power, .selects RX7 yX7_power yX7_power, .code yX7_power cX7_power 2 (some .int), .fieldLink RX7 15 "OrderMover$Setting" "a" "I", .fieldLink RX7 18 "OrderMover$Setting" "b" "I", .methodLink RX7 46 yX7_coefficients, .instanceMethod yX7_coefficients, .selects RX7 yX7_coefficients yX7_coefficients, .code yX7_coefficients cX7_coefficients 2 (some (.array .int)), .fieldLink RX7 27 "OrderMover$Setting" "first" "[I", .fieldLink RX7 31 "OrderMover$Setting" "second" "[I"] ++ wsX70)
def wsX7_begin : List Cond := .code yX7_begin cX7_begin 3 none :: ([.fieldLink RX7 15 "OrderMover$Setting" "a" "I", .fieldLink RX7 18 "OrderMover$Setting" "b" "I", .fieldLink RX7 27 "OrderMover$Setting" "first" "[I", .fieldLink RX7 31 "OrderMover$Setting" "second" "[I", .static yX11_clear, .initialized RX11, .code yX11_clear cX11_clear 2 none] ++ wsX70)
def wsX7_moveToField : List Cond := .code yX7_moveToField cX7_moveToField 3 none :: ([.fieldLink RX7 9 "OrderMover$Setting" "p" "I", .fieldLink RX7 27 "OrderMover$Setting" "first" "[I", .fieldLink RX7 31 "OrderMover$Setting" "second" "[I", .static yX11_leftOver, .initialized RX11, .code yX11_leftOver cX11_leftOver 3 (some .int)] ++ wsX70)
def wsX7_scatter_r1 : List Cond := [Cond.constantLong RX7 58 (16807), Cond.constantLong RX7 60 (2147483647), Cond.fieldLink RX7 9 "OrderMover$Setting" "p" "I", Cond.methodLink RX7 38 yX7_power, Cond.instanceMethod yX7_power, Cond.selects RX7 yX7_power yX7_power, Cond.initialized RX7, Cond.code yX7_power cX7_power 2 (some .int), Cond.fieldLink RX7 15 "OrderMover$Setting" "a" "I", Cond.fieldLink RX7 18 "OrderMover$Setting" "b" "I", Cond.static yX11_leftOver, Cond.initialized RX11, Cond.code yX11_leftOver cX11_leftOver 3 (some .int), Cond.methodLink RX7 62 yX7_change, Cond.instanceMethod yX7_change, Cond.selects RX7 yX7_change yX7_change, Cond.code yX7_change cX7_change 5 none, Cond.methodLink RX7 42 yX7_hasCoefficient, Cond.instanceMethod yX7_hasCoefficient, Cond.selects RX7 yX7_hasCoefficient yX7_hasCoefficient, Cond.code yX7_hasCoefficient cX7_hasCoefficient 4 (some .boolean), Cond.static yX11_isUnknown, Cond.code yX11_isUnknown cX11_isUnknown 1 (some .boolean), Cond.methodLink RX11 88 yX11_isWithin]
def wsX7_scatter_r2 : List Cond := [Cond.static yX11_isWithin, Cond.code yX11_isWithin cX11_isWithin 3 (some .boolean), Cond.methodLink RX7 46 yX7_coefficients, Cond.instanceMethod yX7_coefficients, Cond.selects RX7 yX7_coefficients yX7_coefficients, Cond.code yX7_coefficients cX7_coefficients 2 (some (.array .int)), Cond.fieldLink RX7 27 "OrderMover$Setting" "first" "[I", Cond.fieldLink RX7 31 "OrderMover$Setting" "second" "[I"]
def wsX7_scatter : List Cond := .code yX7_scatter cX7_scatter 7 (some .int) :: ((wsX7_scatter_r1 ++ wsX7_scatter_r2) ++ wsX70)
def wsX7_copyFrom : List Cond := .code yX7_copyFrom cX7_copyFrom 3 none :: ([.fieldLink RX7 9 "OrderMover$Setting" "p" "I", .fieldLink RX7 15 "OrderMover$Setting" "a" "I", .fieldLink RX7 18 "OrderMover$Setting" "b" "I", .fieldLink RX7 21 "OrderMover$Setting" "u" "I", .fieldLink RX7 24 "OrderMover$Setting" "v" "I", .fieldLink RX7 27 "OrderMover$Setting" "first" "[I", .fieldLink RX7 31 "OrderMover$Setting" "second" "[I"] ++ wsX70)
def wsX8_init_r1 : List Cond := [Cond.methodLink RX8 3 objectInit, Cond.instanceMethod objectInit, Cond.code objectInit ⟨#[0xb1]⟩ 1 none, Cond.fieldLink RX8 9 "OrderMover$Slot" "holds" "I", Cond.classLink RX8 15 RX5, Cond.instantiable RX5 4, Cond.initialized RX5, Cond.fieldLink RX8 20 "OrderMover$Slot" "polynomial" "LOrderMover$Polynomial;", Cond.classLink RX8 24 RX10, Cond.instantiable RX10 3, Cond.initialized RX10, Cond.fieldLink RX8 27 "OrderMover$Slot" "order" "LOrderMover$TermOrder;", Cond.classLink RX8 31 RX4, Cond.instantiable RX4 4, Cond.initialized RX4, Cond.fieldLink RX8 34 "OrderMover$Slot" "members" "LOrderMover$Members;", Cond.methodLink RX8 17 yX5_init, Cond.instanceMethod yX5_init, Cond.code yX5_init cX5_init 3 none, Cond.methodLink RX5 3 objectInit, Cond.methodLink RX5 9 Lib.Math.max.name, Cond.static Lib.Math.max.name, Cond.initialized "java/lang/Math", Cond.code Lib.Math.max.name Lib.Math.max.code 2 (some .int)]
def wsX8_init_r2 : List Cond := [Cond.arrayClass .int, Cond.fieldLink RX5 15 "OrderMover$Polynomial" "numbers" "[I", Cond.fieldLink RX5 21 "OrderMover$Polynomial" "xs" "[I", Cond.fieldLink RX5 24 "OrderMover$Polynomial" "ys" "[I", Cond.instanceMethod yX10_init, Cond.code yX10_init cX10_init 1 none, Cond.methodLink RX10 1 objectInit, Cond.fieldLink RX10 7 "OrderMover$TermOrder" "u" "I", Cond.fieldLink RX10 13 "OrderMover$TermOrder" "v" "I", Cond.instanceMethod yX4_init, Cond.code yX4_init cX4_init 1 none, Cond.methodLink RX4 3 objectInit, Cond.fieldLink RX4 9 "OrderMover$Members" "xs" "[I", Cond.fieldLink RX4 15 "OrderMover$Members" "ys" "[I", Cond.classLink RX4 18 "[[I", Cond.fieldLink RX4 20 "OrderMover$Members" "tails" "[[I"]
def wsX8_init : List Cond := .code yX8_init cX8_init 1 none :: ((wsX8_init_r1 ++ wsX8_init_r2) ++ wsX80 ++ wsX50 ++ wsX100 ++ wsX40)
def wsX8_hold_r1 : List Cond := [Cond.fieldLink RX8 27 "OrderMover$Slot" "order" "LOrderMover$TermOrder;", Cond.fieldLink RX8 38 "OrderMover$Base" "order" "LOrderMover$TermOrder;", Cond.fieldLink RX8 41 "OrderMover$TermOrder" "kind" "I", Cond.fieldLink RX8 44 "OrderMover$TermOrder" "u" "I", Cond.fieldLink RX8 47 "OrderMover$TermOrder" "v" "I", Cond.fieldLink RX8 34 "OrderMover$Slot" "members" "LOrderMover$Members;", Cond.fieldLink RX8 54 "OrderMover$Base" "members" "LOrderMover$Members;", Cond.fieldLink RX8 9 "OrderMover$Slot" "holds" "I", Cond.methodLink RX8 50 yX10_become, Cond.instanceMethod yX10_become, Cond.selects RX10 yX10_become yX10_become, Cond.initialized RX10, Cond.code yX10_become cX10_become 4 none, Cond.fieldLink RX10 16 "OrderMover$TermOrder" "kind" "I", Cond.fieldLink RX10 7 "OrderMover$TermOrder" "u" "I", Cond.fieldLink RX10 13 "OrderMover$TermOrder" "v" "I", Cond.methodLink RX8 55 yX4_copyFrom, Cond.instanceMethod yX4_copyFrom, Cond.selects RX4 yX4_copyFrom yX4_copyFrom, Cond.initialized RX4, Cond.code yX4_copyFrom cX4_copyFrom 4 none, Cond.fieldLink RX4 23 "OrderMover$Members" "howMany" "I", Cond.fieldLink RX4 9 "OrderMover$Members" "xs" "[I", Cond.fieldLink RX4 15 "OrderMover$Members" "ys" "[I"]
