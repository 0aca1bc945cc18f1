theorem smP_kept {D : va_G} {cA : Nat → ClassId} {w : Nat} {adr : Nat → Nat} {M : smM} {H H1 : Heap} (h : smP D cA w adr M H) (hk : ∀ q, smA w adr q → q < H.size → H1[q]? = H[q]?) : smP D cA w adr M H1 := by
  refine va_P.kept h (fun k q hq => ?_)
  have hlt := (h k q hq).lt
  refine hk q.1 ?_ hlt
  unfold smW at hq
  rw [List.getElem?_map] at hq
  by_cases hn : k < smNn w
  · rw [List.getElem?_range hn] at hq
    simp only [Option.map_some, Option.some.injEq] at hq
    exact ⟨smLo w + k, by omega, by omega, by rw [← hq]⟩
  · rw [List.getElem?_eq_none (by simpa using hn)] at hq
    cases hq
theorem lw_ci {p : Program} {l : Launch} {e : Env} {R : Room} {s : State} {m : MethodId} {args : Array Value} {below : List Frame} {meth : Method} {c : Code} {H : Heap} {locs : List Loc} {cells slots : Nat} {Q : State → Prop} {pc : Nat} {ls : Array Slot} {rest st0 : List Value} {D : va_G} {cA : Nat → ClassId} {w w2 : Nat} {adr adr2 : Nat → Nat} {M1 M2 : smM} {H0 : Heap} {A0 : Nat → Prop} {v : Int32} {a : Array Value} (hr : va_Run p l e R s m args below meth c H locs cells slots 0 0 (F0 m pc ls st0) rest (smQi D cA w adr M1 v a) (smA w adr)) (hS : va_S A0 H0 H locs) (hA : ∀ q, smA w adr q → A0 q) (hP2 : smP D cA w2 adr2 M2 H) (hdis : ∀ q, smA w2 adr2 q → ¬ smA w adr q)
    (kk : ∀ (H1 : Heap) (locs1 : List Loc), smP D cA w adr M1 H1 → smP D cA w2 adr2 M2 H1 → va_S A0 H0 H1 locs1 → W p l e R s m args below meth c H1 locs1 cells slots Q (F0 m (pc + 3) ls (.int v :: rest))) : W p l e R s m args below meth c H locs cells slots Q (F0 m pc ls st0) :=
  va_calli hr hS (fun q _ h => hA q h) hA (fun r u t H1 locs1 ht _ hp hB _ hk hS1 => by subst hp; exact kk H1 locs1 (by rw [← ht]; exact hB) (smP_kept hP2 (fun q h1 h2 => hk q h2 (hdis q h1))) hS1)
theorem cn_sm {D : va_G} {cA : Nat → ClassId} {w : Nat} {L : List Nat} {ad : Nat → Nat} {H : Heap} (hP : va_P D vwCl (cn_rl cA L ad) H) (hL : ∀ i, i < smNn w → smLo w + i ∈ L) : smP D cA w ad smM0 H := by
  intro k q hk
  unfold smW at hk
  rw [List.getElem?_map] at hk
  by_cases hn : k < smNn w
  · rw [List.getElem?_range hn] at hk
    simp only [Option.map_some, Option.some.injEq] at hk
    obtain ⟨i, hi⟩ := List.getElem?_of_mem (hL k hn)
    rw [← hk]
    exact hP i _ (by unfold cn_rl; rw [List.getElem?_map, hi]; rfl)
  · rw [List.getElem?_eq_none (by simpa using hn)] at hk
    cases hk
theorem cn_pos {A : Nat → Prop} {cA : Nat → ClassId} {L : List Nat} {ad : Nat → Nat} (hD : va_D A (cn_rl cA L ad)) {r r' : Nat} (h1 : r ∈ L) (h2 : r' ∈ L) (e : ad r = ad r') : r = r' := by
  obtain ⟨i, hi⟩ := List.getElem?_of_mem h1
  obtain ⟨j, hj⟩ := List.getElem?_of_mem h2
  have := hD.1 i j (ad r, smC cA ad (smM0 r) r (smKd r)) (ad r', smC cA ad (smM0 r') r' (smKd r')) (by unfold cn_rl; rw [List.getElem?_map, hi]; rfl) (by unfold cn_rl; rw [List.getElem?_map, hj]; rfl) e
  subst this
  rw [hi] at hj
  exact Option.some.inj hj
theorem cn_adA {A : Nat → Prop} {cA : Nat → ClassId} {L : List Nat} {ad : Nat → Nat} (hD : va_D A (cn_rl cA L ad)) {r : Nat} (h1 : r ∈ L) : A (ad r) := by
  obtain ⟨i, hi⟩ := List.getElem?_of_mem h1
  exact hD.2 i (ad r, smC cA ad (smM0 r) r (smKd r)) (by unfold cn_rl; rw [List.getElem?_map, hi]; rfl)
theorem cn_rightD {A : Nat → Prop} {a b : va_W} (h : va_D A (a ++ b)) : va_D A b := ⟨fun i j p q hi hj e => by
    have := h.1 (a.length + i) (a.length + j) p q (by rw [List.getElem?_append_right (by omega), Nat.add_sub_cancel_left]; exact hi) (by rw [List.getElem?_append_right (by omega), Nat.add_sub_cancel_left]; exact hj) e
    omega, fun k q hk => h.2 (a.length + k) q (by rw [List.getElem?_append_right (by omega), Nat.add_sub_cancel_left]; exact hk)⟩
theorem cn_right {D : va_G} {cl : List vw_C} {a b : va_W} {H : Heap} (h : va_P D cl (a ++ b) H) : va_P D cl b H := fun k q hk => h (a.length + k) q (by rw [List.getElem?_append_right (by omega), Nat.add_sub_cancel_left]; exact hk)
theorem cn_dis {A : Nat → Prop} {cA : Nat → ClassId} {L L' : List Nat} {ad ad' : Nat → Nat} (hD : va_D A (cn_rl cA L ad ++ cn_rl cA L' ad')) {r r' : Nat} (h1 : r ∈ L) (h2 : r' ∈ L') : ad r ≠ ad' r' := by
  intro e
  obtain ⟨i, hi⟩ := List.getElem?_of_mem h1
  obtain ⟨j, hj⟩ := List.getElem?_of_mem h2
  have li : i < (cn_rl cA L ad).length := by unfold cn_rl; rw [List.length_map]; exact (List.getElem?_eq_some_iff.mp hi).1
  have := hD.1 i ((cn_rl cA L ad).length + j) (ad r, smC cA ad (smM0 r) r (smKd r)) (ad' r', smC cA ad' (smM0 r') r' (smKd r')) (by rw [List.getElem?_append_left li]; unfold cn_rl; rw [List.getElem?_map, hi]; rfl) (by rw [List.getElem?_append_right (by omega), Nat.add_sub_cancel_left]; unfold cn_rl; rw [List.getElem?_map, hj]; rfl) e
  omega
theorem lw_memr {big : List Cond} (ws : List Cond) (ps : List Nat) (hp : ws = ps.filterMap (fun i => big[i]?)) : ∀ w ∈ ws, w ∈ big := by
  intro w hw
  rw [hp] at hw
  obtain ⟨i, -, hi⟩ := List.mem_filterMap.mp hw
  exact List.mem_of_getElem? hi
theorem cn_join2 {D : va_G} {cl : List vw_C} {A0 : Nat → Prop} {a wc w1 : va_W} {H H1 : Heap} (hP : va_P D cl (a ++ wc) H) (hD : va_D A0 (a ++ wc)) (hk : ∀ q : Nat, q < H.size → ¬ va_A wc H.size q → H1[q]? = H[q]?) (hF : ∀ q, va_A wc H.size q → A0 q) (hP1 : va_P D cl w1 H1) (hD1 : va_D (va_A wc H.size) w1) : va_P D cl (a ++ w1) H1 ∧ va_D A0 (a ++ w1) := by
  have hl : ∀ (k : Nat) (q : Nat × va_E), a[k]? = some q → q.1 < H.size ∧ ¬ va_A wc H.size q.1 := by
    intro k q hq
    have hk2 : k < a.length := (List.getElem?_eq_some_iff.mp hq).1
    have h1 : (a ++ wc)[k]? = some q := by rw [List.getElem?_append_left hk2]; exact hq
    refine ⟨(hP k q h1).lt, fun h => ?_⟩
    rcases h with ⟨j, e, h⟩ | h
    · have h2 : (a ++ wc)[a.length + j]? = some (q.1, e) := by rw [List.getElem?_append_right (by omega), Nat.add_sub_cancel_left]; exact h
      have := hD.1 k (a.length + j) q (q.1, e) h1 h2 rfl
      omega
    · have := (hP k q h1).lt
      omega
  refine ⟨va_P.app (fun k q hq => ?_) hP1, va_D.app (cn_leftD hD) (hD1.weaken (fun k q _ h => hF q.1 h)) (fun i j x y hx hy hxy => ?_)⟩
  · exact ((cn_left hP) k q hq).kept (hk q.1 (hl k q hq).1 (hl k q hq).2)
  · exact (hl i x hx).2 (by rw [hxy]; exact hD1.2 j y hy)
theorem lw_arrI {args : Array Value} {s : State} {t : FieldType} (h : (Cond.arrayClass t).before args s = true) (ho : ∀ C, t ≠ .object C) : ∃ c : ClassId, ArrOfT s c t ∧ va_RA s c t := by
  obtain ⟨c, k, comp, h1, h2, h3⟩ := Cond.arrayClass_spec h
  refine ⟨c, fun N z => ⟨(fun q hq => by cases hq), k, h2, comp, h3⟩, ?_⟩
  cases t <;> first | exact h1 | exact absurd rfl (ho _)
theorem lw_arrA {s : State} {t : FieldType} (h : va_AOA t s) : ∃ c : ClassId, ArrOfT s c (.array t) ∧ va_RA s c (.array t) := by
  obtain ⟨comp, c, k, h1, h2, h3, h4, h5⟩ := arrayOverA_spec h
  exact ⟨c, fun N z => ⟨(fun q hq => by cases hq), k, h3, comp, h4⟩, h5⟩
theorem lw_arrO {s : State} {C : String} (h : va_AO C s) : ∃ c : ClassId, ArrOfT s c (.object C) ∧ va_RA s c (.object C) := by
  obtain ⟨comp, c, k, h1, h2, h3, h4, h5⟩ := Cond.arrayOver_spec h
  exact ⟨c, fun N z => ⟨(fun q hq => by cases hq), k, h3, comp, h4⟩, k, comp, h3, h4, h1, h5⟩
/-! THE CLAIM OUT OF ONE WALK OF THE LAW'S BODY. Your part is whole_start (and what it stands on); all else here is the same for every law, but numbers. -/
def R_law : String := "OrderMoverLaw"
def lw_P (b : Addr) (xs : List Int32) (args : Array Value) (s : State) : Prop := args = #[.ref b] ∧ s.IntsAt b xs ∧ xs.length ≤ 2560 ∧ (Jvm.Cond.and given_1 narrow_1).before args s = true
def lw_Q (_ : Array Value) (s : State) (o : Outcome) (t : State) : Prop := o = .returned (some (.int 1)) ∧ Framed s o t [] 600000 7302249
def lw_Z (below : List Frame) (a : Array Value) (s : State) : State → Prop := fun t => ∃ o, t.status = .running ∧ Ended t below o ∧ lw_Q a s o t
/-- the law's own end, with 1 on the stack, nothing written that was there before, its room as the claim has it -/
theorem lw_ret {p : Program} {l : Launch} {e : Env} {s : State} {m : MethodId} {below : List Frame} {meth : Method} {c : Code} {b : Nat} (hx : p.tables.exec = Jvm.exec) (hb : c.code = code) (hr : meth.sig.returnType = ret) (hlocks : meth.locks = false) {pc : Nat} {H : Heap} {ls : Array Slot} (hdg : decode code pc = .ok (.ireturn, 1)) : W p l e room_1 s m #[Value.ref b] below meth c H [] 600000 7302249 (lw_Z below #[Value.ref b] s) (F0 m pc ls [.int 1]) := by
  intro T hT X
  obtain ⟨fs, hret, hrun, hended, hW, hframe⟩ := X.leave (v := some (.int 1)) (hlocks := hlocks) (fun h => by rw [hr] at h; cases h)
  have hmeth' : T.vm.method? m = some meth := X.method'
  refine ⟨T.setFrames fs, ?_, .returned (some (.int 1)), hrun, hended, rfl, ⟨_, rfl⟩, hW, hframe⟩
  jvm_step X.here [X.here.top, hx, hb, hdg, hmeth', hr, ret, narrow_b1]
  (try refine ⟨rfl, ?_⟩); (try refine ⟨rfl, ?_⟩)
  first | (intro acts; rw [hret _ acts rfl rfl rfl]) | rw [hret _ _ rfl rfl rfl]
  exact Steps.refl _
/-- what holds at the law's entry: the machine, the code, the tables' words (any of lw_tbl by 'hts w (by decide +kernel)'), the script of L ints xs at the cell b, what the Statement gives of the start (any of its parts by flat_of_before) -/
def lw_At (p : Program) (s : State) (m : MethodId) (meth : Method) (c : Code) (b L : Nat) (xs : Nat → Int32) : Prop :=
  p.tables.exec = Jvm.exec ∧ c.code = code ∧ meth.sig.returnType = ret ∧ c.maxLocals = 4 ∧ s.vm.findClass R_law = some m.cls ∧ (∀ w ∈ lw_tbl, w.before #[Value.ref b] s = true) ∧ va_X b L xs s s.heap ∧ b < s.heap.size ∧ meth.locks = false ∧ (Jvm.Cond.and given_1 narrow_1).before #[Value.ref b] s = true
