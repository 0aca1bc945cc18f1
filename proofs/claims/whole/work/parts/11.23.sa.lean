def smC (cA : Nat → ClassId) (adr : Nat → Nat) (f : Nat → Int32) (r : Nat) (c : Nat) : va_E := match c with
  | 0 => .inr (0, [.ref (adr (r + 1)), .ref (adr (r + 2)), .ref (adr (r + 16)), .ref (adr (r + 38)), .ref (adr (r + 39)), .ref (adr (r + 40)), .ref (adr (r + 50)), .ref (adr (r + 56)), .ref (adr (r + 57))])
  | 1 => .inr (1, [.int (f 0), .ref (adr (r + 1)), .ref (adr (r + 2)), .ref (adr (r + 3)), .ref (adr (r + 4)), .ref (adr (r + 5))])
  | 2 => .inr (2, [.ref (adr (r + 1)), .ref (adr (r + 40)), .ref (adr (r + 53)), .ref (adr (r + 54)), .ref (adr (r + 55)), .ref (adr (r + 346)), .int (f 6), .int (f 7), .ref (adr (r + 347))])
  | 3 => .inr (3, [.int (f 0), .ref (adr (r + 1)), .ref (adr (r + 2)), .int (f 3), .ref (adr (r + 3)), .ref (adr (r + 4)), .ref (adr (r + 5))])
  | 4 => .inr (4, [.int (f 0), .ref (adr (r + 1)), .ref (adr (r + 2)), .ref (adr (r + 3))])
  | 5 => .inr (5, [.int (f 0), .ref (adr (r + 1)), .ref (adr (r + 2)), .ref (adr (r + 3))])
  | 6 => .inr (6, [.int (f 0), .int (f 1), .int (f 2), .ref (adr (r + 1)), .ref (adr (r + 38))])
  | 7 => .inr (7, [.int (f 0), .int (f 1), .int (f 2), .int (f 3), .int (f 4), .ref (adr (r + 1)), .ref (adr (r + 2))])
  | 8 => .inr (8, [.int (f 0), .ref (adr (r + 1)), .ref (adr (r + 5)), .ref (adr (r + 6))])
  | 9 => .inr (9, [.int (f 0), .int (f 1), .ref (adr (r + 1)), .ref (adr (r + 11)), .ref (adr (r + 21))])
  | 10 => .inr (10, [.int (f 0), .int (f 1), .int (f 2)])
  | 11 => .inr (11, [.ref (adr (r + 1)), .ref (adr (r + 4)), .ref (adr (r + 11)), .ref (adr (r + 12)), .ref (adr (r + 93)), .ref (adr (r + 441)), .ref (adr (r + 499)), .ref (adr (r + 500)), .ref (adr (r + 504)), .ref (adr (r + 505)), .ref (adr (r + 506))])
  | 12 => .inr (12, [.int (f 0), .int (f 1), .int (f 2), .int (f 3), .int (f 4), .ref (adr (r + 1)), .ref (adr (r + 2)), .ref (adr (r + 3)), .ref (adr (r + 4)), .ref (adr (r + 5)), .ref (adr (r + 6)), .ref (adr (r + 7)), .ref (adr (r + 8)), .ref (adr (r + 9)), .ref (adr (r + 10)), .ref (adr (r + 11)), .ref (adr (r + 12)), .ref (adr (r + 13)), .ref (adr (r + 14)), .ref (adr (r + 15)), .ref (adr (r + 16)), .ref (adr (r + 17)), .ref (adr (r + 18)), .ref (adr (r + 19)), .ref (adr (r + 20)), .ref (adr (r + 21)), .int (f 26), .int (f 27), .int (f 28), .int (f 29), .ref (adr (r + 22)), .ref (adr (r + 23)), .ref (adr (r + 24)), .ref (adr (r + 25)), .int (f 34), .ref (adr (r + 26)), .ref (adr (r + 27)), .ref (adr (r + 28)), .int (f 38), .ref (adr (r + 29)), .ref (adr (r + 30)), .ref (adr (r + 31)), .ref (adr (r + 32)), .int (f 43), .ref (adr (r + 33)), .ref (adr (r + 34)), .int (f 46), .ref (adr (r + 35)), .ref (adr (r + 36)), .ref (adr (r + 37)), .ref (adr (r + 38)), .ref (adr (r + 39)), .int (f 52), .ref (adr (r + 40))])
  | 20 => .inl (cA 0, smLn r, .inl f)
  | 21 => .inl (cA 1, smLn r, .inl f)
  | 22 => .inl (cA 2, smLn r, .inr (.inr (.inr (.inr (fun j => if j < smLn r then some (adr (r + 1 + j)) else none)))))
  | 23 => .inl (cA 3, smLn r, .inr (.inr (.inr (.inr (fun j => if j < smLn r then some (adr (r + 1 + 3 * j)) else none)))))
  | 24 => .inl (cA 4, smLn r, .inr (.inr (.inr (.inr (fun j => if j < smLn r then some (adr (r + 1 + 20 * j)) else none)))))
  | 25 => .inl (cA 5, smLn r, .inr (.inr (.inr (.inr (fun j => if j < smLn r then some (adr (r + 1 + 6 * j)) else none)))))
  | 26 => .inl (cA 6, smLn r, .inr (.inr (.inr (.inr (fun j => if j < smLn r then some (adr (r + 1 + 58 * j)) else none)))))
  | _ => .inl (cA 0, 0, .inl f)
def smTys (cA : Nat → ClassId) : List (ClassId × FieldType) := [(cA 0, .int), (cA 1, .boolean), (cA 2, .array .int), (cA 3, .object "OrderMover$Setting"), (cA 4, .object "OrderMover$Slot"), (cA 5, .object "OrderMover$Least"), (cA 6, .object "OrderMover$Base")]
def smW (cA : Nat → ClassId) (w : Nat) (adr : Nat → Nat) (M : smM) : va_W := (List.range (smNn w)).map (fun i => (adr (smLo w + i), smC cA adr (M (smLo w + i)) (smLo w + i) (smKd (smLo w + i))))
def smA (w : Nat) (adr : Nat → Nat) : Nat → Prop := fun q => ∃ r, smLo w ≤ r ∧ r < smLo w + smNn w ∧ q = adr r
def smJ (w : Nat) (adr : Nat → Nat) : Prop := ∀ r r', smLo w ≤ r → r < smLo w + smNn w → smLo w ≤ r' → r' < smLo w + smNn w → adr r = adr r' → r = r'
def smP (D : va_G) (cA : Nat → ClassId) (w : Nat) (adr : Nat → Nat) (M : smM) (H : Heap) : Prop := va_P D vwCl (smW cA w adr M) H
def smNest : List (String × Nat × MethodName × String) := [(RX11, 11, yX7_init, "OrderMover"), (RX2, 11, yX6_init, "OrderMover"), (RX2, 48, yX0_init, "OrderMover"), (RX0, 11, yX10_init, "OrderMover"), (RX0, 20, yX4_init, "OrderMover"), (RX0, 27, yX9_init, "OrderMover"), (RX0, 46, yX1_init, "OrderMover"), (RX2, 49, yX3_init, "OrderMover"), (RX11, 39, yX0_init, "OrderMover"), (RX11, 46, yX10_init, "OrderMover"), (RX11, 70, yX8_init, "OrderMover"), (RX8, 26, yX10_init, "OrderMover"), (RX8, 33, yX4_init, "OrderMover"), (RX7, 54, yX11_leftOver, "OrderMover"), (RX5, 34, yX11_leftOver, "OrderMover"), (RX4, 41, yX11_leftOver, "OrderMover"), (RX7, 50, yX11_clear, "OrderMover"), (RX7, 34, yX11_isUnknown, "OrderMover"), (RX6, 47, yX11_clear, "OrderMover"), (RX6, 63, yX11_leftOver, "OrderMover"), (RX6, 67, yX11_bringMultiple, "OrderMover"), (RX0, 109, yX11_clear, "OrderMover"), (RX0, 112, yX11_bringMultiple, "OrderMover"), (RX9, 30, yX11_clear, "OrderMover"), (RX9, 34, yX11_bringMultiple, "OrderMover"), (RX0, 120, yX11_firstNotZero, "OrderMover"), (RX4, 27, yX11_clear, "OrderMover"), (RX4, 31, yX11_bringMultiple, "OrderMover"), (RX9, 38, yX11_firstNotZero, "OrderMover"), (RX9, 42, yX11_inverse, "OrderMover"), (RX3, 46, yX11_leftOver, "OrderMover"), (RX3, 59, yX11_highestNotZero, "OrderMover"), (RX3, 67, yX11_inverse, "OrderMover"), (RX2, 89, yX11_isOrder, "OrderMover"), (RX3, 49, yX11_clear, "OrderMover"), (RX6, 71, yX11_highestNotZero, "OrderMover")]
def smEnv (D : va_G) (cA : Nat → ClassId) (U : State) : Prop := va_K D vwCl (smTys cA) U ∧ ∀ q ∈ smNest, va_Nw (.methodLinkNest q.1 q.2.1 q.2.2.1 q.2.2.2) U
theorem smEnv.warm {D : va_G} {cA : Nat → ClassId} {s U : State} (hW : s.WarmedH U.vm) (h : smEnv D cA s) : smEnv D cA U := ⟨va_K.moved hW.alike h.1, fun q hq => va_Nw.warmM hW (h.2 q hq)⟩
theorem smEnv.same {D : va_G} {cA : Nat → ClassId} {u U : State} (hv : u.vm = U.vm) (h : smEnv D cA u) : smEnv D cA U := ⟨va_K.moved (by rw [hv]; exact Vm.Alike.refl U.vm) h.1, fun q hq => va_Nw.same rfl hv (h.2 q hq)⟩
theorem smW_at {cA : Nat → ClassId} {w : Nat} {adr : Nat → Nat} {M : smM} {r c : Nat} (h : smT w r c) : (smW cA w adr M)[r - smLo w]? = some (adr r, smC cA adr (M r) r c) := by
  obtain ⟨h1, h2, h3⟩ := h
  have h4 : r - smLo w < smNn w := by omega
  have h5 : smLo w + (r - smLo w) = r := by omega
  unfold smW
  rw [List.getElem?_map, List.getElem?_range h4]
  simp only [Option.map_some, h5, h3]
theorem smW_set {cA : Nat → ClassId} {w : Nat} {adr : Nat → Nat} {M : smM} {r c k : Nat} {v : Int32} {e : va_E} (h : smT w r c) (he : smC cA adr (upd (M r) k v) r c = e) : (smW cA w adr M).set (r - smLo w) (adr r, e) = smW cA w adr (smS M r k v) := by
  obtain ⟨h1, h2, h3⟩ := h
  subst he
  subst h3
  apply List.ext_getElem?
  intro i
  unfold smW
  rw [List.getElem?_set]
  by_cases hi : r - smLo w = i
  · subst hi
    have h4 : r - smLo w < smNn w := by omega
    have h5 : smLo w + (r - smLo w) = r := by omega
    rw [if_pos rfl, List.getElem?_map, List.getElem?_range h4]
    simp only [List.length_map, List.length_range, h4, if_true, Option.map_some, h5, smS_s]
  · rw [if_neg hi, List.getElem?_map, List.getElem?_map]
    by_cases hn : i < smNn w
    · rw [List.getElem?_range hn]
      have h6 : smLo w + i ≠ r := by omega
      simp only [Option.map_some, smS_n h6]
    · rw [List.getElem?_eq_none (by simpa using hn)]
      rfl
theorem smD {cA : Nat → ClassId} {w : Nat} {adr : Nat → Nat} (hJ : smJ w adr) (M : smM) : va_D (smA w adr) (smW cA w adr M) := by
  have key : ∀ (k : Nat) (q : Nat × va_E), (smW cA w adr M)[k]? = some q → k < smNn w ∧ q.1 = adr (smLo w + k) := by
    intro k q hk
    unfold smW at hk
    rw [List.getElem?_map] at hk
    by_cases hn : k < smNn w
    · rw [List.getElem?_range hn] at hk
      simp only [Option.map_some, Option.some.injEq] at hk
      exact ⟨hn, by rw [← hk]⟩
    · rw [List.getElem?_eq_none (by simpa using hn)] at hk
      cases hk
  refine ⟨fun i j x y hi hj hxy => ?_, fun k q hk => ?_⟩
  · obtain ⟨a1, a2⟩ := key i x hi
    obtain ⟨b1, b2⟩ := key j y hj
    have := hJ (smLo w + i) (smLo w + j) (by omega) (by omega) (by omega) (by omega) (by rw [← a2, ← b2]; exact hxy)
    omega
  · obtain ⟨a1, a2⟩ := key k q hk
    exact ⟨smLo w + k, by omega, by omega, a2⟩
def smPc (D : va_G) (cA : Nat → ClassId) (w : Nat) (adr : Nat → Nat) (M : smM) (av : List Value) : Array Value → State → Prop := va_Pc av (fun U => smEnv D cA U ∧ smP D cA w adr M U.heap)
def smQi (D : va_G) (cA : Nat → ClassId) (w : Nat) (adr : Nat → Nat) (M : smM) (v : Int32) : Array Value → State → Outcome → State → Prop := va_Qi (fun r (_ : Unit) => r = v) (fun _ t => smP D cA w adr M t.heap) (smA w adr)
def smQl (D : va_G) (cA : Nat → ClassId) (w : Nat) (adr : Nat → Nat) (M : smM) (v : Int64) : Array Value → State → Outcome → State → Prop := va_Ql (fun r (_ : Unit) => r = v) (fun _ t => smP D cA w adr M t.heap) (smA w adr)
def smQv (D : va_G) (cA : Nat → ClassId) (w : Nat) (adr : Nat → Nat) (M : smM) : Array Value → State → Outcome → State → Prop := va_Qv (fun (_ : Unit) => True) (fun _ t => smP D cA w adr M t.heap) (smA w adr)
def smQr (D : va_G) (cA : Nat → ClassId) (w : Nat) (adr : Nat → Nat) (M : smM) (v k : Nat) : Array Value → State → Outcome → State → Prop := va_Qr (fun (_ : Unit) => smT w v k) (fun _ a t => a = adr v ∧ smP D cA w adr M t.heap) (smA w adr)
theorem smPc_bl {D : va_G} {cA : Nat → ClassId} {w : Nat} {adr : Nat → Nat} {M : smM} {av : List Value} : FrameBlind (smPc D cA w adr M av) := fun a U g mk q => ⟨q.1, q.2.1.same (U := U.calling g mk a) rfl, q.2.2⟩
theorem smPc_in {D : va_G} {cA : Nat → ClassId} {w : Nat} {adr : Nat → Nat} {M : smM} {s : State} {H : Heap} (av : List Value) (hE : smEnv D cA s) (hP : smP D cA w adr M H) : ∀ U : State, U.heap = H → s.WarmedH U.vm → smPc D cA w adr M av av.toArray U := fun U hU hW => ⟨rfl, hE.warm hW, by rw [hU]; exact hP⟩
theorem smRv {D : va_G} {cA : Nat → ClassId} {w : Nat} {adr : Nat → Nat} {M : smM} {s : State} {H : Heap} {r ci : Nat} {q : vw_C} {fs : List Value} (hE : smEnv D cA s) (hP : smP D cA w adr M H) (hr : smT w r ci) (hf : smC cA adr (M r) r ci = .inr (ci, fs)) (hc : vwCl[ci]? = some q) : ∃ cell : Cell, H[adr r]? = some cell ∧ cell.vm.isStatics = false ∧ s.vm.findClass q.1 = some cell.cls := va_recv hE.1 hP hc (by rw [smW_at hr, hf])
section SMR
variable {p : Program} {l : Launch} {e : Env} {R : Room} {s : State} {m : MethodId} {args : Array Value} {below : List Frame} {meth : Method} {c : Code} {H : Heap} {locs : List Loc} {cells slots : Nat} {Q : State → Prop}
variable {cc : ByteArray} {pc : Nat} {ls : Array Slot} {rest : List Value} {D : va_G} {cA : Nat → ClassId} {w : Nat} {adr : Nat → Nat} {M : smM} {r : Nat} {H0 : Heap}
theorem sm_get (hexec : p.tables.exec = Jvm.exec) (hb : c.code = cc) {own ref C : String} {T : u_T} {N ci index : Nat} {Ts : List Cond} (hts : ∀ w ∈ Ts, w.before args s = true) (hin : ∀ w ∈ u_ws C T N, w ∈ Ts) (hown : s.vm.findClass own = some m.cls) (hE : smEnv D cA s) (hP : smP D cA w adr M H) (hr : smT w r ci) (hc : vwCl[ci]? = some (C, T, N)) {fs : List Value} (hf : smC cA adr (M r) r ci = .inr (ci, fs)) (k : Nat) (hk : k < N) (hlink : (Cond.fieldLink own index ref (T k).2.1 (T k).2.2.1).before args s = true) (hsame : ∀ x, s.fieldFound? (T k).1 (T k).2.1 (T k).2.2.1 = some x → s.fieldFound? ref (T k).2.1 (T k).2.2.1 = some x) {v : Value} (hv : fs[k]? = some v) (hdg : decode cc pc = .ok (.getfield index, 3))
    (kk : W p l e R s m args below meth c H locs cells slots Q (F0 m (pc + 3) ls (v :: rest))) : W p l e R s m args below meth c H locs cells slots Q (F0 m pc ls (.ref (adr r) :: rest)) :=
  va_get hexec hb hts hin hown hE.1 hP (r - smLo w) (by rw [smW_at hr, hf]) hc k hk hlink hsame hv hdg kk
theorem sm_put (hexec : p.tables.exec = Jvm.exec) (hb : c.code = cc) {own ref C : String} {T : u_T} {N ci index : Nat} {Ts : List Cond} (hts : ∀ w ∈ Ts, w.before args s = true) (hin : ∀ w ∈ u_ws C T N, w ∈ Ts) (ty0 : Nat → FieldType) (hty : ∀ k, k < N → parseFieldDescriptor (T k).2.2.1 = some (ty0 k)) (hnm : ∀ a, a < N → ∀ b, b < N → a ≠ b → (T a).2.1 ≠ (T b).2.1) (hown : s.vm.findClass own = some m.cls) (hE : smEnv D cA s) (hJ : smJ w adr) (hP : smP D cA w adr M H) (hS : va_S (smA w adr) H0 H locs) (hr : smT w r ci) (hc : vwCl[ci]? = some (C, T, N)) {fs : List Value} (hf : smC cA adr (M r) r ci = .inr (ci, fs)) (k : Nat) (hk : k < N) (hlink : (Cond.fieldLink own index ref (T k).2.1 (T k).2.2.1).before args s = true) (hsame : ∀ x, s.fieldFound? (T k).1 (T k).2.1 (T k).2.2.1 = some x → s.fieldFound? ref (T k).2.1 (T k).2.2.1 = some x) (hfin : (T k).2.2.2 = false) {ty : FieldType} {v : Int32} (hd : parseFieldDescriptor (T k).2.2.1 = some ty) (hn : narrow ty (.int v) = .int v) (hfit : fits ty (.int v) = true) (hl : k < fs.length) (hset : smC cA adr (upd (M r) k v) r ci = .inr (ci, fs.set k (.int v)))
    (hdg : decode cc pc = .ok (.putfield index, 3)) (kk : ∀ (H1 : Heap) (locs1 : List Loc), smP D cA w adr (smS M r k v) H1 → va_S (smA w adr) H0 H1 locs1 → W p l e R s m args below meth c H1 locs1 cells slots Q (F0 m (pc + 3) ls rest)) : W p l e R s m args below meth c H locs cells slots Q (F0 m pc ls (.int v :: .ref (adr r) :: rest)) :=
  va_put hexec hb hts hin ty0 hty hnm hown hE.1 hP (smD hJ M) hS (r - smLo w) (by rw [smW_at hr, hf]) hc k hk hlink hsame hfin hd hn hfit hl hdg (fun H1 locs1 h1 _ h3 => kk H1 locs1 (by rw [smW_set hr hset] at h1; exact h1) h3)
theorem sm_iald (hexec : p.tables.exec = Jvm.exec) (hb : c.code = cc) (hE : smEnv D cA s) (hP : smP D cA w adr M H) (hr : smT w r 20) {i : Int32} (hin : ¬ (i < 0 ∨ smLn r ≤ i.toNatClampNeg)) (hdg : decode cc pc = .ok (.iaload, 1))
    (kk : W p l e R s m args below meth c H locs cells slots Q (F0 m (pc + 1) ls (.int (M r i.toNatClampNeg) :: rest))) : W p l e R s m args below meth c H locs cells slots Q (F0 m pc ls (.int i :: .ref (adr r) :: rest)) :=
  va_iald (cA := cA 0) (n := smLn r) (f := M r) hexec hb hE.1 hP (r - smLo w) 0 (by rw [smW_at hr]; rfl) rfl hin hdg kk
theorem sm_zald (hexec : p.tables.exec = Jvm.exec) (hb : c.code = cc) (hE : smEnv D cA s) (hP : smP D cA w adr M H) (hr : smT w r 21) {i : Int32} (hin : ¬ (i < 0 ∨ smLn r ≤ i.toNatClampNeg)) (hdg : decode cc pc = .ok (.baload, 1))
    (kk : W p l e R s m args below meth c H locs cells slots Q (F0 m (pc + 1) ls (.int (M r i.toNatClampNeg) :: rest))) : W p l e R s m args below meth c H locs cells slots Q (F0 m pc ls (.int i :: .ref (adr r) :: rest)) :=
  va_zald (cA := cA 1) (n := smLn r) (f := M r) hexec hb hE.1 hP (r - smLo w) 1 (by rw [smW_at hr]; rfl) rfl hin hdg kk
theorem sm_iast (hexec : p.tables.exec = Jvm.exec) (hb : c.code = cc) (hE : smEnv D cA s) (hJ : smJ w adr) (hP : smP D cA w adr M H) (hS : va_S (smA w adr) H0 H locs) (hr : smT w r 20) {i x : Int32} (hin : ¬ (i < 0 ∨ smLn r ≤ i.toNatClampNeg)) (hdg : decode cc pc = .ok (.iastore, 1))
    (kk : ∀ (H1 : Heap) (locs1 : List Loc), smP D cA w adr (smS M r i.toNatClampNeg x) H1 → va_S (smA w adr) H0 H1 locs1 → W p l e R s m args below meth c H1 locs1 cells slots Q (F0 m (pc + 1) ls rest)) : W p l e R s m args below meth c H locs cells slots Q (F0 m pc ls (.int x :: .int i :: .ref (adr r) :: rest)) :=
  va_iast (cA := cA 0) (n := smLn r) (f := M r) hexec hb hE.1 hP (smD hJ M) hS (r - smLo w) 0 (by rw [smW_at hr]; rfl) rfl hin hdg (fun H1 locs1 h1 _ h3 => kk H1 locs1 (by rw [smW_set (k := i.toNatClampNeg) (v := x) (e := .inl (cA 0, smLn r, .inl (upd (M r) i.toNatClampNeg x))) hr rfl] at h1; exact h1) h3)
theorem sm_zast (hexec : p.tables.exec = Jvm.exec) (hb : c.code = cc) (hE : smEnv D cA s) (hJ : smJ w adr) (hP : smP D cA w adr M H) (hS : va_S (smA w adr) H0 H locs) (hr : smT w r 21) {i x y : Int32} (hy : vp_nar .boolean x = y) (hin : ¬ (i < 0 ∨ smLn r ≤ i.toNatClampNeg)) (hdg : decode cc pc = .ok (.bastore, 1))
    (kk : ∀ (H1 : Heap) (locs1 : List Loc), smP D cA w adr (smS M r i.toNatClampNeg y) H1 → va_S (smA w adr) H0 H1 locs1 → W p l e R s m args below meth c H1 locs1 cells slots Q (F0 m (pc + 1) ls rest)) : W p l e R s m args below meth c H locs cells slots Q (F0 m pc ls (.int x :: .int i :: .ref (adr r) :: rest)) := by
  subst hy
  exact va_zast (cA := cA 1) (n := smLn r) (f := M r) hexec hb hE.1 hP (smD hJ M) hS (r - smLo w) 1 (by rw [smW_at hr]; rfl) rfl hin hdg (fun H1 locs1 h1 _ h3 => kk H1 locs1 (by rw [smW_set (k := i.toNatClampNeg) (v := vp_nar .boolean x) (e := .inl (cA 1, smLn r, .inl (upd (M r) i.toNatClampNeg (vp_nar .boolean x)))) hr rfl] at h1; exact h1) h3)
theorem sm_alen (hexec : p.tables.exec = Jvm.exec) (hb : c.code = cc) (hE : smEnv D cA s) (hP : smP D cA w adr M H) (hr : smT w r 20) (hdg : decode cc pc = .ok (.arraylength, 1))
    (kk : W p l e R s m args below meth c H locs cells slots Q (F0 m (pc + 1) ls (.int (nI (smLn r)) :: rest))) : W p l e R s m args below meth c H locs cells slots Q (F0 m pc ls (.ref (adr r) :: rest)) :=
  va_alen (cA := cA 0) (x := (smLn r, .inl (M r))) (ty := .int) hexec hb hE.1 hP (r - smLo w) 0 (by rw [smW_at hr]; rfl) rfl rfl hdg kk
theorem sm_aald (hexec : p.tables.exec = Jvm.exec) (hb : c.code = cc) (hE : smEnv D cA s) (hP : smP D cA w adr M H) (t0 : Nat) {k : Nat} {ty : FieldType} (hr : smT w r k) {f : Nat → Nat} (hf : smC cA adr (M r) r k = .inl (cA t0, smLn r, .inr (.inr (.inr (.inr (fun j => if j < smLn r then some (f j) else none)))))) (ht : (smTys cA)[t0]? = some (cA t0, ty)) (hty : ty.isReference = true) {i : Int32} (hin : ¬ (i < 0 ∨ smLn r ≤ i.toNatClampNeg)) (hdg : decode cc pc = .ok (.aaload, 1))
    (kk : W p l e R s m args below meth c H locs cells slots Q (F0 m (pc + 1) ls (.ref (f i.toNatClampNeg) :: rest))) : W p l e R s m args below meth c H locs cells slots Q (F0 m pc ls (.int i :: .ref (adr r) :: rest)) := by
  have hlt : i.toNatClampNeg < smLn r := Nat.not_le.mp fun q => hin (Or.inr q)
  have ha := hP (r - smLo w) _ (smW_at hr)
  rw [hf] at ha
  exact W.aald (v := .ref (f i.toNatClampNeg)) (ty := ty) hexec hb ha ((hE.1.2 t0 _ ht).1 (smLn r) (fun j => va_rf (if j < smLn r then some (f j) else none))) hty (fun q => by cases q) (by show ¬ (i < 0 ∨ (arrV _ _ _).slots.size ≤ _); rw [arrV_size]; exact hin) (by show (arrV _ _ _).slots[_]? = _; rw [arrV_read _ _ hlt]; show some (va_rf (if i.toNatClampNeg < smLn r then some (f i.toNatClampNeg) else none)) = _; rw [if_pos hlt]; rfl) rfl rfl hdg kk
theorem sm_aald22 (hexec : p.tables.exec = Jvm.exec) (hb : c.code = cc) (hE : smEnv D cA s) (hP : smP D cA w adr M H) (hr : smT w r 22) {i : Int32} (hin : ¬ (i < 0 ∨ smLn r ≤ i.toNatClampNeg)) (hdg : decode cc pc = .ok (.aaload, 1))
    (kk : W p l e R s m args below meth c H locs cells slots Q (F0 m (pc + 1) ls (.ref (adr (r + 1 + i.toNatClampNeg)) :: rest))) : W p l e R s m args below meth c H locs cells slots Q (F0 m pc ls (.int i :: .ref (adr r) :: rest)) :=
  sm_aald (f := fun j => adr (r + 1 + j)) hexec hb hE hP 2 hr rfl rfl rfl hin hdg kk
theorem sm_aald23 (hexec : p.tables.exec = Jvm.exec) (hb : c.code = cc) (hE : smEnv D cA s) (hP : smP D cA w adr M H) (hr : smT w r 23) {i : Int32} (hin : ¬ (i < 0 ∨ smLn r ≤ i.toNatClampNeg)) (hdg : decode cc pc = .ok (.aaload, 1))
    (kk : W p l e R s m args below meth c H locs cells slots Q (F0 m (pc + 1) ls (.ref (adr (r + 1 + 3 * i.toNatClampNeg)) :: rest))) : W p l e R s m args below meth c H locs cells slots Q (F0 m pc ls (.int i :: .ref (adr r) :: rest)) :=
  sm_aald (f := fun j => adr (r + 1 + 3 * j)) hexec hb hE hP 3 hr rfl rfl rfl hin hdg kk
theorem sm_aald24 (hexec : p.tables.exec = Jvm.exec) (hb : c.code = cc) (hE : smEnv D cA s) (hP : smP D cA w adr M H) (hr : smT w r 24) {i : Int32} (hin : ¬ (i < 0 ∨ smLn r ≤ i.toNatClampNeg)) (hdg : decode cc pc = .ok (.aaload, 1))
    (kk : W p l e R s m args below meth c H locs cells slots Q (F0 m (pc + 1) ls (.ref (adr (r + 1 + 20 * i.toNatClampNeg)) :: rest))) : W p l e R s m args below meth c H locs cells slots Q (F0 m pc ls (.int i :: .ref (adr r) :: rest)) :=
  sm_aald (f := fun j => adr (r + 1 + 20 * j)) hexec hb hE hP 4 hr rfl rfl rfl hin hdg kk
theorem sm_aald25 (hexec : p.tables.exec = Jvm.exec) (hb : c.code = cc) (hE : smEnv D cA s) (hP : smP D cA w adr M H) (hr : smT w r 25) {i : Int32} (hin : ¬ (i < 0 ∨ smLn r ≤ i.toNatClampNeg)) (hdg : decode cc pc = .ok (.aaload, 1))
    (kk : W p l e R s m args below meth c H locs cells slots Q (F0 m (pc + 1) ls (.ref (adr (r + 1 + 6 * i.toNatClampNeg)) :: rest))) : W p l e R s m args below meth c H locs cells slots Q (F0 m pc ls (.int i :: .ref (adr r) :: rest)) :=
  sm_aald (f := fun j => adr (r + 1 + 6 * j)) hexec hb hE hP 5 hr rfl rfl rfl hin hdg kk
theorem sm_aald26 (hexec : p.tables.exec = Jvm.exec) (hb : c.code = cc) (hE : smEnv D cA s) (hP : smP D cA w adr M H) (hr : smT w r 26) {i : Int32} (hin : ¬ (i < 0 ∨ smLn r ≤ i.toNatClampNeg)) (hdg : decode cc pc = .ok (.aaload, 1))
    (kk : W p l e R s m args below meth c H locs cells slots Q (F0 m (pc + 1) ls (.ref (adr (r + 1 + 58 * i.toNatClampNeg)) :: rest))) : W p l e R s m args below meth c H locs cells slots Q (F0 m pc ls (.int i :: .ref (adr r) :: rest)) :=
  sm_aald (f := fun j => adr (r + 1 + 58 * j)) hexec hb hE hP 6 hr rfl rfl rfl hin hdg kk
theorem sm_ci {st0 : List Value} {v : Int32} {a : Array Value} {M1 : smM} (hr : va_Run p l e R s m args below meth c H locs cells slots 0 0 (F0 m pc ls st0) rest (smQi D cA w adr M1 v a) (smA w adr)) (hS : va_S (smA w adr) H0 H locs)
    (kk : ∀ (H1 : Heap) (locs1 : List Loc), smP D cA w adr M1 H1 → va_S (smA w adr) H0 H1 locs1 → W p l e R s m args below meth c H1 locs1 cells slots Q (F0 m (pc + 3) ls (.int v :: rest))) : W p l e R s m args below meth c H locs cells slots Q (F0 m pc ls st0) :=
  va_calli hr hS (fun _ _ h => h) (fun _ h => h) (fun r u t H1 locs1 ht _ hp hB _ _ hS1 => by subst hp; exact kk H1 locs1 (by rw [← ht]; exact hB) hS1)
theorem sm_cl {st0 : List Value} {v : Int64} {a : Array Value} {M1 : smM} (hr : va_Run p l e R s m args below meth c H locs cells slots 0 0 (F0 m pc ls st0) rest (smQl D cA w adr M1 v a) (smA w adr)) (hS : va_S (smA w adr) H0 H locs)
    (kk : ∀ (H1 : Heap) (locs1 : List Loc), smP D cA w adr M1 H1 → va_S (smA w adr) H0 H1 locs1 → W p l e R s m args below meth c H1 locs1 cells slots Q (F0 m (pc + 3) ls (.long v :: rest))) : W p l e R s m args below meth c H locs cells slots Q (F0 m pc ls st0) :=
  va_calll hr hS (fun _ _ h => h) (fun _ h => h) (fun r u t H1 locs1 ht _ hp hB _ _ hS1 => by subst hp; exact kk H1 locs1 (by rw [← ht]; exact hB) hS1)
theorem sm_cv {st0 : List Value} {a : Array Value} {M1 : smM} (hr : va_Run p l e R s m args below meth c H locs cells slots 0 0 (F0 m pc ls st0) rest (smQv D cA w adr M1 a) (smA w adr)) (hS : va_S (smA w adr) H0 H locs)
    (kk : ∀ (H1 : Heap) (locs1 : List Loc), smP D cA w adr M1 H1 → va_S (smA w adr) H0 H1 locs1 → W p l e R s m args below meth c H1 locs1 cells slots Q (F0 m (pc + 3) ls rest)) : W p l e R s m args below meth c H locs cells slots Q (F0 m pc ls st0) :=
  va_callv hr hS (fun _ _ h => h) (fun _ h => h) (fun u t H1 locs1 ht _ hp hB _ _ hS1 => kk H1 locs1 (by rw [← ht]; exact hB) hS1)
theorem sm_cr {st0 : List Value} {v k : Nat} {a : Array Value} {M1 : smM} (hr : va_Run p l e R s m args below meth c H locs cells slots 0 0 (F0 m pc ls st0) rest (smQr D cA w adr M1 v k a) (smA w adr)) (hS : va_S (smA w adr) H0 H locs)
    (kk : ∀ (H1 : Heap) (locs1 : List Loc), smT w v k → smP D cA w adr M1 H1 → va_S (smA w adr) H0 H1 locs1 → W p l e R s m args below meth c H1 locs1 cells slots Q (F0 m (pc + 3) ls (.ref (adr v) :: rest))) : W p l e R s m args below meth c H locs cells slots Q (F0 m pc ls st0) :=
  va_callr hr hS (fun _ _ h => h) (fun _ h => h) (fun u ra t H1 locs1 ht _ hp hB _ _ hS1 => by obtain ⟨e1, e2⟩ := hB; subst e1; exact kk H1 locs1 hp (by rw [← ht]; exact e2) hS1)
/-- the ends -/
theorem sm_iret {v : Int32} (hexec : p.tables.exec = Jvm.exec) (hb : c.code = cc) (hr : meth.sig.returnType = some .int) (hlocks : meth.locks = false) (hP : smP D cA w adr M H) (hS : va_S (smA w adr) s.heap H locs) (hdg : decode cc pc = .ok (.ireturn, 1)) : W p l e R s m args below meth c H locs cells slots (MQ below (smQi D cA w adr M v) args s cells slots (smA w adr)) (F0 m pc ls [.int v]) :=
  W.iret (v := v) hexec hb hr (fun t ht _ => ⟨⟨v, (), rfl, rfl, by show smP D cA w adr M t.heap; rw [ht]; exact hP⟩, hS.F ht⟩) hS.2.2 hdg hlocks
theorem sm_lret {v : Int64} (hexec : p.tables.exec = Jvm.exec) (hb : c.code = cc) (hr : meth.sig.returnType = some .long) (hlocks : meth.locks = false) (hP : smP D cA w adr M H) (hS : va_S (smA w adr) s.heap H locs) (hdg : decode cc pc = .ok (.lreturn, 1)) : W p l e R s m args below meth c H locs cells slots (MQ below (smQl D cA w adr M v) args s cells slots (smA w adr)) (F0 m pc ls [.long v]) :=
  W.lret (v := v) hexec hb hr (fun t ht _ => ⟨⟨v, (), rfl, rfl, by show smP D cA w adr M t.heap; rw [ht]; exact hP⟩, hS.F ht⟩) hS.2.2 hdg hlocks
theorem sm_vret (hexec : p.tables.exec = Jvm.exec) (hb : c.code = cc) (hr : meth.sig.returnType = none) (hlocks : meth.locks = false) (hP : smP D cA w adr M H) (hS : va_S (smA w adr) s.heap H locs) (hdg : decode cc pc = .ok (.return_, 1)) : W p l e R s m args below meth c H locs cells slots (MQ below (smQv D cA w adr M) args s cells slots (smA w adr)) (F0 m pc ls []) :=
  W.vret hexec hb hr (fun t ht _ => ⟨⟨(), rfl, trivial, by show smP D cA w adr M t.heap; rw [ht]; exact hP⟩, hS.F ht⟩) hS.2.2 hdg hlocks
theorem sm_aret {v k : Nat} {rt : FieldType} (hexec : p.tables.exec = Jvm.exec) (hb : c.code = cc) (hr : meth.sig.returnType = some rt) (hrt : (∃ n, rt = .object n) ∨ ∃ t, rt = .array t) (hlocks : meth.locks = false) (hk : smT w v k) (hP : smP D cA w adr M H) (hS : va_S (smA w adr) s.heap H locs) (hdg : decode cc pc = .ok (.areturn, 1)) : W p l e R s m args below meth c H locs cells slots (MQ below (smQr D cA w adr M v k) args s cells slots (smA w adr)) (F0 m pc ls [.ref (adr v)]) :=
  W.aret hexec hb hr hrt (Or.inr ⟨_, rfl⟩) (fun t ht _ => ⟨⟨(), adr v, rfl, hk, rfl, by show smP D cA w adr M t.heap; rw [ht]; exact hP⟩, hS.F ht⟩) hS.2.2 hdg hlocks
theorem sm_zr0 {Qc : Array Value → State → Outcome → State → Prop} {free : Addr → Prop} {v : Int32} (hexec : p.tables.exec = Jvm.exec) (hb : c.code = cc) (hr : meth.sig.returnType = some .boolean) (hlocks : meth.locks = false)
    (hq : ∀ t : State, t.heap = H → s.WarmedH t.vm → Qc args s (.returned (some (.int (v &&& 1)))) t) (hf : ∀ q ∈ locs, free q.base)
    (hdg : decode cc pc = .ok (.ireturn, 1)) : W p l e R s m args below meth c H locs cells slots (MQ below Qc args s cells slots free) (F0 m pc ls [.int v]) := by
  intro T hT X
  obtain ⟨fs, hret, hrun, hended, hW, hframe⟩ := X.leave (v := some (.int (v &&& 1))) (fun h => by rw [hr] at h; cases h)
  have hmeth' : T.vm.method? m = some meth := X.method'
  refine ⟨T.setFrames fs, ?_, .returned (some (.int (v &&& 1))), hrun, hended, hq _ hT hW, locs, ⟨⟨_, rfl⟩, hW, hframe⟩, hf⟩
  jvm_step X.here [X.here.top, hexec, hb, hdg, hmeth', hr, narrow]
  (try refine ⟨rfl, ?_⟩); (try refine ⟨rfl, ?_⟩)
  first | (intro acts; rw [hret _ acts rfl rfl rfl]) | rw [hret _ _ rfl rfl rfl]
  exact Steps.refl _
theorem sm_zret {v v' : Int32} (hv : smZ v = v') (hexec : p.tables.exec = Jvm.exec) (hb : c.code = cc) (hr : meth.sig.returnType = some .boolean) (hlocks : meth.locks = false) (hP : smP D cA w adr M H) (hS : va_S (smA w adr) s.heap H locs) (hdg : decode cc pc = .ok (.ireturn, 1)) : W p l e R s m args below meth c H locs cells slots (MQ below (smQi D cA w adr M v') args s cells slots (smA w adr)) (F0 m pc ls [.int v]) := by
  subst hv
  exact sm_zr0 hexec hb hr hlocks (fun t ht _ => ⟨⟨v &&& 1, (), rfl, rfl, by show smP D cA w adr M t.heap; rw [ht]; exact hP⟩, hS.F ht⟩) hS.2.2 hdg
theorem sm_lp {σ ρ : Type} {b : (σ → Option ρ) → σ → Option ρ} {x : ρ} {P : σ → Heap → List Loc → Array Slot → Prop}
    (body : ∀ (rc : σ → Option ρ), (∀ q H locs ls, rc q = some x → P q H locs ls → W p l e R s m args below meth c H locs cells slots Q (F0 m pc ls [])) → ∀ q H locs ls, b rc q = some x → P q H locs ls → W p l e R s m args below meth c H locs cells slots Q (F0 m pc ls [])) (n : Nat) (q : σ) (H : Heap) (locs : List Loc) (ls : Array Slot) (h : smLp b n q = some x) (hI : P q H locs ls) : W p l e R s m args below meth c H locs cells slots Q (F0 m pc ls []) := by
  induction n generalizing q H locs ls with
  | zero => cases h
  | succ n ih => exact body (smLp b n) (fun q H locs ls h hI => ih q H locs ls h hI) q H locs ls h hI
theorem sm_jn {σ ρ : Type} {T : σ → Option ρ} {x : ρ} {P : σ → Heap → List Loc → Array Slot → Prop} {st : σ → List Value} {g : JFrame}
    (j : ∀ q H locs ls, T q = some x → P q H locs ls → W p l e R s m args below meth c H locs cells slots Q (F0 m pc ls (st q))) (k : (∀ q H locs ls, T q = some x → P q H locs ls → W p l e R s m args below meth c H locs cells slots Q (F0 m pc ls (st q))) → W p l e R s m args below meth c H locs cells slots Q g) : W p l e R s m args below meth c H locs cells slots Q g := k j
theorem sm_ne {x : Int32} {j : Int} {y : Int32} (h : ¬ x = y) (hy : y.toInt = j) : x.toInt ≠ j := fun q => h (Int32.toInt_inj.mp (q.trans hy.symm))
end SMR
