/-! the constructors: the cells in the order in which they are made, each with its role -/
def smI0 (c k : Nat) : Int32 := if c = 7 then (if k = 0 then 7 else if k = 1 then 2 else if k = 2 then 2 else if k = 3 then 1 else if k = 4 then 2 else 0) else if c = 10 then (if k = 1 then 1 else if k = 2 then 1 else 0) else if c = 2 then (if k = 7 then -1 else 0) else if c = 12 then (if k = 0 then 7 else if k = 1 then 2 else if k = 2 then 2 else if k = 3 then 1 else if k = 4 then 2 else 0) else 0
def smM0 : smM := fun r k => smI0 (smKd r) k
def cn_rl (cA : Nat → ClassId) (L : List Nat) (ad : Nat → Nat) : va_W := L.map (fun q => (ad q, smC cA ad (smM0 q) q (smKd q)))
def cn_rows (cA : Nat → ClassId) (n k : Nat) (rf : Nat → Nat) : va_W := (List.range n).map (fun i => (rf i, .inl (cA 0, k, .inl (fun _ => 0))))
theorem va_AOA.moved {t : FieldType} {u U : State} (hvm : u.vm.Alike U.vm) (h : va_AOA t u) : va_AOA t U := by
  obtain ⟨comp, c, k, h1, h2, h3, h4, h5⟩ := arrayOverA_spec h
  obtain ⟨k', hk', he⟩ := hvm.2.2 _ _ h3
  have hi : (U.vm.classes.findIdx? fun (x : Class) => match x.kind with | .array component _ => component == comp | _ => false) = some c := by
    have e1 := va_idx_bare U.vm comp
    have e2 := va_idx_bare u.vm comp
    first
      | (rw [hvm.bare_eq] at e2; exact (e1.symm.trans e2).trans h2)
      | (rw [← hvm.bare_eq] at e2; exact (e1.symm.trans e2).trans h2)
  have hkind : k'.kind = .array comp (.array t) := by rw [he]; exact h4
  have f1 : U.vm.findClass (FieldType.array t).toString = some comp := by rw [hvm.findClass]; exact h1
  have f2 : U.vm.findClass ("[" ++ (FieldType.array t).toString) = some c := by rw [hvm.findClass]; exact h5
  unfold va_AOA Cond.before Cond.holds
  simp only [Cond.value]
  rw [f1, Option.bind_some]
  refine (congrArg (fun o : Option Nat => (o.bind (fun c => (U.vm.classes[c]?).map fun (k : Class) => match k.kind with | .array _ ty => decide (ty = FieldType.array t) && decide (U.vm.findClass ("[" ++ (FieldType.array t).toString) = some c) | _ => false) == some true)) hi).trans ?_
  simp [hk', hkind, f2]
def cnEnv (D : va_G) (cA : Nat → ClassId) (U : State) : Prop := smEnv D cA U ∧ va_AOA .int U ∧ va_AO "OrderMover$Setting" U ∧ va_AO "OrderMover$Slot" U ∧ va_AO "OrderMover$Least" U ∧ va_AO "OrderMover$Base" U
theorem cnEnv.warm {D : va_G} {cA : Nat → ClassId} {s U : State} (hW : s.WarmedH U.vm) (h : cnEnv D cA s) : cnEnv D cA U := ⟨h.1.warm hW, h.2.1.moved hW.alike, h.2.2.1.moved hW.alike, h.2.2.2.1.moved hW.alike, h.2.2.2.2.1.moved hW.alike, h.2.2.2.2.2.moved hW.alike⟩
theorem cnEnv.same {D : va_G} {cA : Nat → ClassId} {u U : State} (hv : u.vm = U.vm) (h : cnEnv D cA u) : cnEnv D cA U := by
  have ha : u.vm.Alike U.vm := by rw [hv]; exact Vm.Alike.refl U.vm
  exact ⟨h.1.same hv, h.2.1.moved ha, h.2.2.1.moved ha, h.2.2.2.1.moved ha, h.2.2.2.2.1.moved ha, h.2.2.2.2.2.moved ha⟩
def cn_Pc (D : va_G) (cA : Nat → ClassId) (h0 sz : Nat) (e0 : va_E) (av : List Value) : Array Value → State → Prop := va_Pc av (fun U => U.heap.size = sz ∧ va_P D vwCl [(h0, e0)] U.heap ∧ cnEnv D cA U ∧ va_D (fun _ => True) [(h0, e0)])
def cn_Qc (D : va_G) (cA : Nat → ClassId) (h0 sz : Nat) (e0 : va_E) (r : Nat) (L : List Nat) : Array Value → State → Outcome → State → Prop := va_Qv (fun ad : Nat → Nat => ad r = h0) (fun ad t => va_P D vwCl (cn_rl cA L ad) t.heap ∧ va_D (va_A [(h0, e0)] sz) (cn_rl cA L ad)) (va_A [(h0, e0)] sz)
theorem cn_bl {D : va_G} {cA : Nat → ClassId} {h0 sz : Nat} {e0 : va_E} {av : List Value} : FrameBlind (cn_Pc D cA h0 sz e0 av) := fun a U g mk q => ⟨q.1, q.2.1, q.2.2.1, q.2.2.2.1.same (U := U.calling g mk a) rfl, q.2.2.2.2⟩
theorem cn_in {D : va_G} {cA : Nat → ClassId} {h0 : Nat} {e0 : va_E} {av : List Value} {s : State} {H : Heap} (hE : cnEnv D cA s) (hP : va_P D vwCl [(h0, e0)] H) (hD : va_D (fun _ => True) [(h0, e0)]) : ∀ U : State, U.heap = H → s.WarmedH U.vm → cn_Pc D cA h0 H.size e0 av av.toArray U := fun U hU hW => ⟨rfl, by rw [hU], by rw [hU]; exact hP, hE.warm hW, hD⟩
theorem cn_left {D : va_G} {cl : List vw_C} {a b : va_W} {H : Heap} (h : va_P D cl (a ++ b) H) : va_P D cl a H := fun k q hk => h k q (by rw [List.getElem?_append_left (List.getElem?_eq_some_iff.mp hk).1]; exact hk)
theorem cn_leftD {A : Nat → Prop} {a b : va_W} (h : va_D A (a ++ b)) : va_D A a := ⟨fun i j p q hi hj e => h.1 i j p q (by rw [List.getElem?_append_left (List.getElem?_eq_some_iff.mp hi).1]; exact hi) (by rw [List.getElem?_append_left (List.getElem?_eq_some_iff.mp hj).1]; exact hj) e, fun k q hk => h.2 k q (by rw [List.getElem?_append_left (List.getElem?_eq_some_iff.mp hk).1]; exact hk)⟩
theorem cn_ty {D : va_G} {cl : List vw_C} {tys : List (ClassId × FieldType)} {s : State} {c c' : ClassId} {t : FieldType} {k : Nat} (h : va_K D cl (tys ++ [(c', t)]) s) (hk : tys[k]? = some (c, t)) : c' = c := by
  have a := (h.2 tys.length (c', t) (by rw [List.getElem?_append_right (Nat.le_refl _), Nat.sub_self]; rfl)).2
  have b := (h.2 k (c, t) (by rw [List.getElem?_append_left (List.getElem?_eq_some_iff.mp hk).1]; exact hk)).2
  cases t with
  | object C =>
    obtain ⟨_, _, -, -, -, a4⟩ := a
    obtain ⟨_, _, -, -, -, b4⟩ := b
    exact Option.some.inj (a4.symm.trans b4)
  | _ => exact Option.some.inj (Eq.trans (Eq.symm a) b)
section CNR
variable {p : Program} {l : Launch} {e : Env} {R : Room} {s : State} {m : MethodId} {args : Array Value} {below : List Frame} {meth : Method} {c : Code} {H : Heap} {locs : List Loc} {cells slots : Nat} {Q : State → Prop}
variable {cc : ByteArray} {pc : Nat} {ls : Array Slot} {rest : List Value} {D : va_G} {cA : Nat → ClassId} {A : Nat → Prop} {X pl : va_W} {H0 : Heap}
theorem cn_newi (hexec : p.tables.exec = Jvm.exec) (hb : c.code = cc) (harr : (Cond.arrayClass .int).before args s = true) (hE : cnEnv D cA s) (hP : va_P D vwCl (X ++ pl) H) (hD : va_D A (X ++ pl)) (hS : va_S A H0 H locs) (hA : ∀ q, H0.size ≤ q → A q) {n : Int32} {N : Nat} (hn : ¬ n < 0) (hN : n.toNatClampNeg = N) (hbytes : N * 4 ≤ 536870912) (hcells : cells + 1 ≤ R.cells) (hslots : slots + N ≤ R.slots) (hdg : decode cc pc = .ok (.newarray .int, 2))
    (kk : ∀ (q : Nat) (H1 : Heap), va_P D vwCl ((X ++ [(q, .inl (cA 0, N, .inl (fun _ => 0)))]) ++ pl) H1 → va_D A ((X ++ [(q, .inl (cA 0, N, .inl (fun _ => 0)))]) ++ pl) → va_S A H0 H1 locs → W p l e R s m args below meth c H1 locs (cells + 1) (slots + N) Q (F0 m (pc + 2) ls (.ref q :: rest))) : W p l e R s m args below meth c H locs cells slots Q (F0 m pc ls (.int n :: rest)) :=
  va_newa (atype := .int) (ty := .int) (a0 := (N, .inl (fun _ => 0))) hexec hb harr rfl hE.1.1 hP hD hS hA (fun _ => rfl) hn hN hbytes hcells hslots hdg (fun q cA' H1 hK hP hD hS => by
    have ec := cn_ty (k := 0) (c := cA 0) hK rfl
    subst ec
    exact kk q H1 (va_P.swap hP) (va_D.swap hD) hS)
theorem cn_newz (hexec : p.tables.exec = Jvm.exec) (hb : c.code = cc) (harr : (Cond.arrayClass .boolean).before args s = true) (hE : cnEnv D cA s) (hP : va_P D vwCl (X ++ pl) H) (hD : va_D A (X ++ pl)) (hS : va_S A H0 H locs) (hA : ∀ q, H0.size ≤ q → A q) {n : Int32} {N : Nat} (hn : ¬ n < 0) (hN : n.toNatClampNeg = N) (hbytes : N * 1 ≤ 536870912) (hcells : cells + 1 ≤ R.cells) (hslots : slots + N ≤ R.slots) (hdg : decode cc pc = .ok (.newarray .boolean, 2))
    (kk : ∀ (q : Nat) (H1 : Heap), va_P D vwCl ((X ++ [(q, .inl (cA 1, N, .inl (fun _ => 0)))]) ++ pl) H1 → va_D A ((X ++ [(q, .inl (cA 1, N, .inl (fun _ => 0)))]) ++ pl) → va_S A H0 H1 locs → W p l e R s m args below meth c H1 locs (cells + 1) (slots + N) Q (F0 m (pc + 2) ls (.ref q :: rest))) : W p l e R s m args below meth c H locs cells slots Q (F0 m pc ls (.int n :: rest)) :=
  va_newa (atype := .boolean) (ty := .boolean) (a0 := (N, .inl (fun _ => 0))) hexec hb harr rfl hE.1.1 hP hD hS hA (fun _ => rfl) hn hN hbytes hcells hslots hdg (fun q cA' H1 hK hP hD hS => by
    have ec := cn_ty (k := 1) (c := cA 1) hK rfl
    subst ec
    exact kk q H1 (va_P.swap hP) (va_D.swap hD) hS)
theorem cn_newq (hexec : p.tables.exec = Jvm.exec) (hb : c.code = cc) {own C : String} {index t0 : Nat} (hown : s.vm.findClass own = some m.cls) (hclink : (Cond.classLink own index C).before args s = true) (hover : va_AO C s) (ht : (smTys cA)[t0]? = some (cA t0, .object C)) (hE : cnEnv D cA s) (hP : va_P D vwCl (X ++ pl) H) (hD : va_D A (X ++ pl)) (hS : va_S A H0 H locs) (hA : ∀ q, H0.size ≤ q → A q) {n : Int32} {N : Nat} (hn : ¬ n < 0) (hN : n.toNatClampNeg = N) (hbytes : N * 4 ≤ 536870912) (hcells : cells + 1 ≤ R.cells) (hslots : slots + N ≤ R.slots) (hdg : decode cc pc = .ok (.anewarray index, 3))
    (kk : ∀ (q : Nat) (H1 : Heap), va_P D vwCl ((X ++ [(q, .inl (cA t0, N, .inr (.inr (.inr (.inr (fun _ => none))))))]) ++ pl) H1 → va_D A ((X ++ [(q, .inl (cA t0, N, .inr (.inr (.inr (.inr (fun _ => none))))))]) ++ pl) → va_S A H0 H1 locs → W p l e R s m args below meth c H1 locs (cells + 1) (slots + N) Q (F0 m (pc + 3) ls (.ref q :: rest))) : W p l e R s m args below meth c H locs cells slots Q (F0 m pc ls (.int n :: rest)) :=
  va_newq hexec hb hown hclink hover hE.1.1 hP hD hS hA hn hN hbytes hcells hslots hdg (fun q cA' H1 hK hP hD hS => by
    have ec := cn_ty (k := t0) (c := cA t0) hK ht
    subst ec
    exact kk q H1 (va_P.swap hP) (va_D.swap hD) hS)
theorem cn_plr {n k : Nat} {rf : Nat → Nat} : va_pl (([] : List Nat) ++ (List.range n).map rf) (vr_up (fun _ => .inl (cA 0, 0, .inl (fun _ => 0))) ((List.range n).map rf) (.inl (cA 0, k, .inl (fun _ => 0)))) = cn_rows cA n k rf := by
  unfold va_pl cn_rows
  rw [List.nil_append, List.map_map]
  apply List.map_congr_left
  intro i hi
  show (rf i, vr_up _ _ _ (rf i)) = _
  rw [vr_up_in (List.mem_map_of_mem hi)]
theorem cn_mna (hexec : p.tables.exec = Jvm.exec) (hb : c.code = cc) {own : String} {index : Nat} (hown : s.vm.findClass own = some m.cls) (hclink : (Cond.classLink own index "[[I").before args s = true) (harr : (Cond.arrayClass .int).before args s = true) (hE : cnEnv D cA s) (hP : va_P D vwCl (X ++ pl) H) (hD : va_D A (X ++ pl)) (hS : va_S A H0 H locs) (hA : ∀ q, H0.size ≤ q → A q) {n k : Int32} {N K : Nat} (hn : ¬ n < 0) (hk : ¬ k < 0) (hN : n.toNatClampNeg = N) (hM : k.toNatClampNeg = K) (hb1 : N * 4 ≤ 536870912) (hb2 : K * 4 ≤ 536870912) (hb3 : K ≤ 536870912) (hcells : cells + (1 + N) ≤ R.cells) (hslots : slots + (N + N * K) ≤ R.slots) (hdg : decode cc pc = .ok (.multianewarray index 2, 4))
    (kk : ∀ (q : Nat) (rf : Nat → Nat) (H1 : Heap), va_P D vwCl ((X ++ [(q, .inl (cA 2, N, .inr (.inr (.inr (.inr (fun i => if i < N then some (rf i) else none))))))]) ++ (cn_rows cA N K rf ++ pl)) H1 → va_D A ((X ++ [(q, .inl (cA 2, N, .inr (.inr (.inr (.inr (fun i => if i < N then some (rf i) else none))))))]) ++ (cn_rows cA N K rf ++ pl)) → va_S A H0 H1 locs → W p l e R s m args below meth c H1 locs (cells + 1 + N) (slots + N + N * K) Q (F0 m (pc + 4) ls (.ref q :: rest))) : W p l e R s m args below meth c H locs cells slots Q (F0 m pc ls (.int k :: .int n :: rest)) := by
  have hcy : s.vm.findClass (FieldType.array .int).toString = some (cA 0) := (hE.1.1.2 0 (cA 0, .int) rfl).2
  refine va_mna (X := X ++ pl) (L := []) (f := fun _ => .inl (cA 0, 0, .inl (fun _ => 0))) (ty := .int) (z := (K, .inl (fun _ => 0))) hexec hb hown hclink hE.2.1 harr hcy hE.1.1 (by rw [show va_pl [] (fun _ => (.inl (cA 0, 0, .inl (fun _ => 0)) : va_E)) = [] from rfl, List.append_nil]; exact hP) (by rw [show va_pl [] (fun _ => (.inl (cA 0, 0, .inl (fun _ => 0)) : va_E)) = [] from rfl, List.append_nil]; exact hD) hS hA hn hk hN hM hb1 hb2 hb3 rfl rfl hcells hslots (fun cX => by show ({ cls := cX, slots := Array.replicate K (.int 0), vm := .none } : Cell) = arrV cX K (fun _ => .int 0); unfold arrV; congr 1; apply Array.ext <;> simp) hdg (fun q rf cA' H1 _ _ hK hP hD hS => ?_)
  have ec := cn_ty (k := 2) (c := cA 2) hK rfl
  subst ec
  rw [cn_plr] at hP hD
  refine kk q rf H1 ?_ ?_ hS
  · have h1 := cn_left hP
    have h2 : va_P D vwCl ((X ++ pl) ++ ([(q, .inl (cA 2, N, .inr (.inr (.inr (.inr (fun i => if i < N then some (rf i) else none))))))] ++ cn_rows cA N K rf)) H1 := by rw [← List.append_assoc]; exact hP
    have h3 := va_P.swap h2
    rw [List.append_assoc, List.append_assoc] at h3
    rw [List.append_assoc]
    exact h3
  · have h2 : va_D A ((X ++ pl) ++ ([(q, .inl (cA 2, N, .inr (.inr (.inr (.inr (fun i => if i < N then some (rf i) else none))))))] ++ cn_rows cA N K rf)) := by rw [← List.append_assoc]; exact hD
    have h3 := va_D.swap h2
    rw [List.append_assoc, List.append_assoc] at h3
    rw [List.append_assoc]
    exact h3
end CNR
theorem cn_cons {cA : Nat → ClassId} {a : Nat} {e : va_E} {X : va_W} {q : Nat} {L : List Nat} {ad : Nat → Nat} (h1 : a = ad q) (h2 : e = smC cA ad (smM0 q) q (smKd q)) (h3 : X = cn_rl cA L ad) : (a, e) :: X = cn_rl cA (q :: L) ad := by
  rw [h1, h2, h3]; rfl
theorem cn_up0 : ∀ j : Nat, (fun _ : Nat => (none : Option Nat)) j = if j < 0 then some 0 else none := fun j => rfl
theorem cn_up {f : Nat → Option Nat} {g g0 : Nat → Nat} {n : Nat} {v : Nat} (h : ∀ j, f j = if j < n then some (g0 j) else none) (hg : ∀ j, j < n → g0 j = g j) (hv : v = g n) : ∀ j, va_up f n (some v) j = if j < n + 1 then some (g j) else none := by
  intro j
  unfold va_up
  by_cases e : j = n
  · subst e; rw [if_pos rfl, if_pos (Nat.lt_succ_self j), hv]
  · rw [if_neg e, h j]
    by_cases q : j < n
    · rw [if_pos q, if_pos (Nat.lt_succ_of_lt q), hg j q]
    · rw [if_neg q, if_neg (by omega)]
theorem cn_qq {cA : Nat → ClassId} {t0 n : Nat} {f g : Nat → Option Nat} {e : va_E} (he : e = .inl (cA t0, n, .inr (.inr (.inr (.inr g))))) (h : ∀ j, f j = g j) : (.inl (cA t0, n, .inr (.inr (.inr (.inr f)))) : va_E) = e := by
  rw [he, show f = g from funext h]
def smSz (q : Nat) : Nat := let c := smKd q; if c = 0 then 58 else if c = 1 then 6 else if c = 2 then 348 else if c = 3 then 6 else if c = 4 then 14 else if c = 5 then 4 else if c = 6 then 39 else if c = 7 then 3 else if c = 8 then 20 else if c = 9 then 22 else if c = 10 then 1 else if c = 11 then 507 else if c = 12 then 41 else if c = 22 then 1 + smLn q else if c = 23 then 1 + 3 * smLn q else if c = 24 then 1 + 20 * smLn q else if c = 25 then 1 + 6 * smLn q else if c = 26 then 1 + 58 * smLn q else 1
theorem smC_cong {cA : Nat → ClassId} {ad ad' : Nat → Nat} {f : Nat → Int32} {a b : Nat} (hk : smKd a = smKd b) (hl : smLn a = smLn b) (h : ∀ k, k < smSz a → ad (a + k) = ad' (b + k)) : smC cA ad f a (smKd a) = smC cA ad' f b (smKd b) := by
  rw [← hk]
  generalize hc : smKd a = c
  have hs : smSz a = if c = 0 then 58 else if c = 1 then 6 else if c = 2 then 348 else if c = 3 then 6 else if c = 4 then 14 else if c = 5 then 4 else if c = 6 then 39 else if c = 7 then 3 else if c = 8 then 20 else if c = 9 then 22 else if c = 10 then 1 else if c = 11 then 507 else if c = 12 then 41 else if c = 22 then 1 + smLn a else if c = 23 then 1 + 3 * smLn a else if c = 24 then 1 + 20 * smLn a else if c = 25 then 1 + 6 * smLn a else if c = 26 then 1 + 58 * smLn a else 1 := by unfold smSz; rw [hc]
  rw [hs] at h
  unfold smC
  split
  · rw [h 1 (by simp), h 2 (by simp), h 16 (by simp), h 38 (by simp), h 39 (by simp), h 40 (by simp), h 50 (by simp), h 56 (by simp), h 57 (by simp)]
  · rw [h 1 (by simp), h 2 (by simp), h 3 (by simp), h 4 (by simp), h 5 (by simp)]
  · rw [h 1 (by simp), h 40 (by simp), h 53 (by simp), h 54 (by simp), h 55 (by simp), h 346 (by simp), h 347 (by simp)]
  · rw [h 1 (by simp), h 2 (by simp), h 3 (by simp), h 4 (by simp), h 5 (by simp)]
  · rw [h 1 (by simp), h 2 (by simp), h 3 (by simp)]
  · rw [h 1 (by simp), h 2 (by simp), h 3 (by simp)]
  · rw [h 1 (by simp), h 38 (by simp)]
  · rw [h 1 (by simp), h 2 (by simp)]
  · rw [h 1 (by simp), h 5 (by simp), h 6 (by simp)]
  · rw [h 1 (by simp), h 11 (by simp), h 21 (by simp)]
  · rfl
  · rw [h 1 (by simp), h 4 (by simp), h 11 (by simp), h 12 (by simp), h 93 (by simp), h 441 (by simp), h 499 (by simp), h 500 (by simp), h 504 (by simp), h 505 (by simp), h 506 (by simp)]
  · rw [h 1 (by simp), h 2 (by simp), h 3 (by simp), h 4 (by simp), h 5 (by simp), h 6 (by simp), h 7 (by simp), h 8 (by simp), h 9 (by simp), h 10 (by simp), h 11 (by simp), h 12 (by simp), h 13 (by simp), h 14 (by simp), h 15 (by simp), h 16 (by simp), h 17 (by simp), h 18 (by simp), h 19 (by simp), h 20 (by simp), h 21 (by simp), h 22 (by simp), h 23 (by simp), h 24 (by simp), h 25 (by simp), h 26 (by simp), h 27 (by simp), h 28 (by simp), h 29 (by simp), h 30 (by simp), h 31 (by simp), h 32 (by simp), h 33 (by simp), h 34 (by simp), h 35 (by simp), h 36 (by simp), h 37 (by simp), h 38 (by simp), h 39 (by simp), h 40 (by simp)]
  · rw [hl]
  · rw [hl]
  · have hf : (fun j => if j < smLn a then some (ad (a + 1 + j)) else none) = fun j => if j < smLn b then some (ad' (b + 1 + j)) else none := by
      funext j
      rw [hl]
      by_cases q : j < smLn b
      · rw [if_pos q, if_pos q, Nat.add_assoc, Nat.add_assoc, h (1 + j) (by simp <;> omega)]
      · rw [if_neg q, if_neg q]
    rw [hf, hl]
  · have hf : (fun j => if j < smLn a then some (ad (a + 1 + 3 * j)) else none) = fun j => if j < smLn b then some (ad' (b + 1 + 3 * j)) else none := by
      funext j
      rw [hl]
      by_cases q : j < smLn b
      · rw [if_pos q, if_pos q, Nat.add_assoc, Nat.add_assoc, h (1 + 3 * j) (by simp <;> omega)]
      · rw [if_neg q, if_neg q]
    rw [hf, hl]
  · have hf : (fun j => if j < smLn a then some (ad (a + 1 + 20 * j)) else none) = fun j => if j < smLn b then some (ad' (b + 1 + 20 * j)) else none := by
      funext j
      rw [hl]
      by_cases q : j < smLn b
      · rw [if_pos q, if_pos q, Nat.add_assoc, Nat.add_assoc, h (1 + 20 * j) (by simp <;> omega)]
      · rw [if_neg q, if_neg q]
    rw [hf, hl]
  · have hf : (fun j => if j < smLn a then some (ad (a + 1 + 6 * j)) else none) = fun j => if j < smLn b then some (ad' (b + 1 + 6 * j)) else none := by
      funext j
      rw [hl]
      by_cases q : j < smLn b
      · rw [if_pos q, if_pos q, Nat.add_assoc, Nat.add_assoc, h (1 + 6 * j) (by simp <;> omega)]
      · rw [if_neg q, if_neg q]
    rw [hf, hl]
  · have hf : (fun j => if j < smLn a then some (ad (a + 1 + 58 * j)) else none) = fun j => if j < smLn b then some (ad' (b + 1 + 58 * j)) else none := by
      funext j
      rw [hl]
      by_cases q : j < smLn b
      · rw [if_pos q, if_pos q, Nat.add_assoc, Nat.add_assoc, h (1 + 58 * j) (by simp <;> omega)]
      · rw [if_neg q, if_neg q]
    rw [hf, hl]
  · rfl
theorem cn_cong {cA : Nat → ClassId} {ad ad' : Nat → Nat} {L : List Nat} {lo hi : Nat} (hL : ∀ q ∈ L, lo ≤ q ∧ q + smSz q ≤ hi ∧ 0 < smSz q) (h : ∀ q, lo ≤ q → q < hi → ad q = ad' q) : cn_rl cA L ad = cn_rl cA L ad' := by
  unfold cn_rl
  apply List.map_congr_left
  intro q hq
  obtain ⟨h1, h2, h3⟩ := hL q hq
  rw [smC_cong rfl rfl (fun k hk => h (q + k) (by omega) (by omega)), h q h1 (by omega)]
theorem cn_move {cA : Nat → ClassId} {ad : Nat → Nat} {r r' : Nat} {L L' : List Nat} (h1 : L' = L.map (fun q => q - r + r')) (h2 : ∀ q ∈ L, r ≤ q ∧ smKd q = smKd (q - r + r') ∧ smLn q = smLn (q - r + r')) : cn_rl cA L ad = cn_rl cA L' (fun q => ad (q - r' + r)) := by
  subst h1
  unfold cn_rl
  rw [List.map_map]
  apply List.map_congr_left
  intro q hq
  obtain ⟨a, b, c⟩ := h2 q hq
  show (ad q, smC cA ad (smM0 q) q (smKd q)) = (ad (q - r + r' - r' + r), smC cA (fun q => ad (q - r' + r)) (smM0 (q - r + r')) (q - r + r') (smKd (q - r + r')))
  have e : smM0 q = smM0 (q - r + r') := by unfold smM0; rw [b]
  rw [← e, ← smC_cong (ad := ad) (a := q) b c (fun k _ => by rw [show q - r + r' + k - r' + r = q + k by omega]), show q - r + r' - r' + r = q by omega]
theorem cn_same {cA : Nat → ClassId} {ad : Nat → Nat} {r : Nat} {L : List Nat} (h2 : ∀ q ∈ L, r ≤ q) : cn_rl cA L ad = cn_rl cA L (fun q => ad (q - r + r)) := by
  unfold cn_rl
  apply List.map_congr_left
  intro q hq
  have a := h2 q hq
  rw [smC_cong (ad' := fun q => ad (q - r + r)) rfl rfl (fun k _ => by rw [show q + k - r + r = q + k by omega])]
  show (ad q, _) = (ad (q - r + r), _)
  rw [show q - r + r = q by omega]
