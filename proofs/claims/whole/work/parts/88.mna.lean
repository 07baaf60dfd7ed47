/-! multianewarray of int[N][M]: the model's own steps -/
def mq_in (comp : ClassId) (M : Nat) : Cell := { cls := comp, slots := Array.replicate M (.int 0), vm := .none }
def mq_out (c : ClassId) (N h i : Nat) : Cell := { cls := c, slots := Array.ofFn (fun j : Fin N => if j.val < i then Value.ref (h + 1 + j.val) else Value.null), vm := .none }
theorem mq_out_set {c : ClassId} {N h i : Nat} (hi : i < N) : (mq_out c N h i).setSlot i (.ref (h + 1 + i)) = mq_out c N h (i + 1) := by
  unfold mq_out Cell.setSlot
  congr 1
  refine Array.ext (by simp) fun j h1 h2 => ?_
  rw [Array.getElem_setIfInBounds (by simpa using h2), Array.getElem_ofFn, Array.getElem_ofFn]
  by_cases e : i = j
  · subst e
    simp
  · rw [if_neg e]
    by_cases hj : j < i
    · rw [if_pos (show j < i from hj), if_pos (show j < i + 1 from by omega)]
    · rw [if_neg (show ¬ j < i from hj), if_neg (show ¬ j < i + 1 from by omega)]
theorem mq_out0 {c : ClassId} {N h : Nat} : ({ cls := c, slots := Array.replicate N .null } : Cell) = mq_out c N h 0 := by
  unfold mq_out
  congr 1
  refine Array.ext (by simp) fun j h1 h2 => ?_
  simp
theorem mq_out_size {c : ClassId} {N h i : Nat} : (mq_out c N h i).slots.size = N := by simp [mq_out]
theorem mq_in_size {c : ClassId} {N : Nat} : (mq_in c N).slots.size = N := by simp [mq_in]
def mq_one (c comp : ClassId) (N M h i : Nat) (V : State) : State := (V.pushCell (mq_in comp M)).setCell h (mq_out c N h (i + 1))
def mq_st (c comp : ClassId) (N M h : Nat) (U : State) : Nat → State
  | 0 => U
  | i + 1 => mq_one c comp N M h i (mq_st c comp N M h U i)
section
variable {p : Program} {l : Launch} {e : Env} {R : Room} {s : State} {m : MethodId} {args : Array Value} {below : List Frame} {meth : Method} {c : Code}
/-- the state when i rows are made -/
def mq_I (p : Program) (l : Launch) (e : Env) (R : Room) (s : State) (m : MethodId) (args : Array Value) (below : List Frame) (meth : Method) (c : Code) (T : State) (vm₁ : Vm) (locs : List Loc) (cells slots : Nat) (cA comp : ClassId) (N M i : Nat) (U : State) : Prop :=
  ∃ L : List Loc, Stand p l e R s m args below meth c U (locs ++ L) (cells + 1 + i) (slots + N + i * M) ∧ (∀ q ∈ L, q.base = T.heap.size) ∧ U.heap.size = T.heap.size + 1 + i ∧ U.heap[T.heap.size]? = some (mq_out cA N T.heap.size i) ∧ (∀ j, j < i → U.heap[T.heap.size + 1 + j]? = some (mq_in comp M)) ∧ (∀ a, a < T.heap.size → U.heap[a]? = T.heap[a]?) ∧ U.vm = vm₁ ∧ U.slotsUsed = T.slotsUsed + N + i * M
variable {T : State} {vm₁ : Vm} {locs : List Loc} {cells slots N M : Nat} {cA comp : ClassId}
theorem mq_I0 (X : Stand p l e R s m args below meth c (T.setVm vm₁) locs cells slots) : mq_I p l e R s m args below meth c T vm₁ locs cells slots cA comp N M 0 ((T.setVm vm₁).pushCell (mq_out cA N T.heap.size 0)) := by
  have h := X.pushed (mq_out cA N T.heap.size 0)
  rw [mq_out_size] at h
  refine ⟨[], by simpa using h, by simp, by simp [State.pushCell, State.setVm], by simp [State.pushCell, State.setVm], fun j hj => absurd hj (Nat.not_lt_zero j), fun a ha => ?_, rfl, by simp [State.pushCell, State.setVm, mq_out_size]⟩
  show (T.heap.push _)[a]? = _
  rw [Array.getElem?_push, if_neg (Nat.ne_of_lt ha)]
theorem mq_IS {U : State} {i : Nat} (hi : i < N) (h : mq_I p l e R s m args below meth c T vm₁ locs cells slots cA comp N M i U) : mq_I p l e R s m args below meth c T vm₁ locs cells slots cA comp N M (i + 1) (mq_one cA comp N M T.heap.size i U) := by
  obtain ⟨L, hX, hL, hz, ho, hj, ha, hv, hu⟩ := h
  unfold mq_one
  have hlt : T.heap.size < U.heap.size := by omega
  have hcell : (U.pushCell (mq_in comp M)).heap[T.heap.size]? = some (mq_out cA N T.heap.size i) := by
    show (U.heap.push _)[_]? = _
    rw [Array.getElem?_push, if_neg (Nat.ne_of_lt hlt)]
    exact ho
  have hX1 := (hX.pushed (mq_in comp M)).stored hcell i (.ref (T.heap.size + 1 + i))
  rw [mq_out_set hi, mq_in_size] at hX1
  refine ⟨L ++ [⟨T.heap.size, i⟩], ?_, ?_, ?_, ?_, ?_, ?_, hv, ?_⟩
  · rw [← List.append_assoc, Nat.succ_mul, ← Nat.add_assoc, ← Nat.add_assoc]
    exact hX1
  · intro q hq
    rcases List.mem_append.mp hq with h | h
    · exact hL q h
    · rw [List.mem_singleton.mp h]
  · simp [State.setCell, State.pushCell, hz]; omega
  · show ((U.heap.push _).setIfInBounds _ _)[_]? = _
    rw [Array.getElem?_setIfInBounds_self_of_lt (by simp; omega)]
  · intro j hj1
    show ((U.heap.push _).setIfInBounds _ _)[_]? = _
    rw [Array.getElem?_setIfInBounds_ne (by omega), Array.getElem?_push]
    by_cases e : j = i
    · subst e
      rw [if_pos (by omega)]
    · rw [if_neg (by omega)]
      exact hj j (by omega)
  · intro a h1
    show ((U.heap.push _).setIfInBounds _ _)[_]? = _
    rw [Array.getElem?_setIfInBounds_ne (by omega), Array.getElem?_push, if_neg (by omega)]
    exact ha a h1
  · show U.slotsUsed + _ = _
    rw [hu, mq_in_size, Nat.succ_mul]
    omega
theorem mq_all (X : Stand p l e R s m args below meth c (T.setVm vm₁) locs cells slots) : ∀ i, i ≤ N → mq_I p l e R s m args below meth c T vm₁ locs cells slots cA comp N M i (mq_st cA comp N M T.heap.size ((T.setVm vm₁).pushCell (mq_out cA N T.heap.size 0)) i)
  | 0, _ => mq_I0 X
  | i + 1, hi => mq_IS (by omega) (mq_all X i (by omega))
end
/-! the words of its body -/
section
variable {E : CtlPost} {e : Env} {d : Bool} {acts : List Action}
theorem mq_make1 {V : State} {comp cI : ClassId} {kI : Class} {b : Int32} {Q : Addr → Pre} (hk : V.vm.classes[comp]? = some kI) (hkind : kI.kind = .array cI .int) (hb : ¬ b < 0) (hlimit : ¬ b.toNatClampNeg > e.platform.arrayLengthLimit) (hheap : ¬ b.toNatClampNeg * 4 > e.platform.maxHeapBytes)
    (hcells : V.heap.size < e.platform.maxCells) (hslots : V.slotsUsed + b.toNatClampNeg ≤ e.platform.maxSlots) (hq : ∀ acts', Q V.heap.size d acts' (V.pushCell (mq_in comp b.toNatClampNeg))) : wp (multianewarray.make comp [b]) Q E e d acts V := by
  rw [multianewarray.make]
  simp only [wp_bind', Jvm.W.ite, hb, if_false, wp_pure', Jvm.W.theClass, hk, Option.some.injEq, exists_eq_left', hkind]
  exact Jvm.W.newArray_of (type := .int) hk hkind hlimit hheap hcells hslots rfl hq
theorem mq_make {U : State} {f : JFrame} {cA comp cI : ClassId} {kA kI : Class} {a b : Int32} {Q : Addr → Pre} (hkA : U.vm.classes[cA]? = some kA) (hkindA : kA.kind = .array comp (.array .int)) (hk : U.vm.classes[comp]? = some kI) (hkind : kI.kind = .array cI .int) (ha : ¬ a < 0) (hb : ¬ b < 0)
    (hla : ¬ a.toNatClampNeg > e.platform.arrayLengthLimit) (hha : ¬ a.toNatClampNeg * 4 > e.platform.maxHeapBytes) (hlb : ¬ b.toNatClampNeg > e.platform.arrayLengthLimit) (hhb : ¬ b.toNatClampNeg * 4 > e.platform.maxHeapBytes)
    (hcells : U.heap.size + (1 + a.toNatClampNeg) ≤ e.platform.maxCells) (hslots : U.slotsUsed + (a.toNatClampNeg + a.toNatClampNeg * b.toNatClampNeg) ≤ e.platform.maxSlots)
    (hst : ∀ i, i < a.toNatClampNeg → (mq_st cA comp a.toNatClampNeg b.toNatClampNeg U.heap.size (U.pushCell (mq_out cA a.toNatClampNeg U.heap.size 0)) i).heap.size = U.heap.size + 1 + i ∧ (mq_st cA comp a.toNatClampNeg b.toNatClampNeg U.heap.size (U.pushCell (mq_out cA a.toNatClampNeg U.heap.size 0)) i).heap[U.heap.size]? = some (mq_out cA a.toNatClampNeg U.heap.size i) ∧ (mq_st cA comp a.toNatClampNeg b.toNatClampNeg U.heap.size (U.pushCell (mq_out cA a.toNatClampNeg U.heap.size 0)) i).vm = U.vm ∧ (mq_st cA comp a.toNatClampNeg b.toNatClampNeg U.heap.size (U.pushCell (mq_out cA a.toNatClampNeg U.heap.size 0)) i).slotsUsed = U.slotsUsed + a.toNatClampNeg + i * b.toNatClampNeg)
    (hq : ∀ d' acts', Q U.heap.size d' acts' ((mq_st cA comp a.toNatClampNeg b.toNatClampNeg U.heap.size (U.pushCell (mq_out cA a.toNatClampNeg U.heap.size 0)) a.toNatClampNeg).setTop f)) : wp (multianewarray.make cA [a, b]) Q E e d acts (U.setTop f) := by
  rw [multianewarray.make]
  have hfind : ([b] : List Int32).find? (· < 0) = none := by simp [hb]
  simp only [wp_bind', Jvm.W.ite, ha, if_false, wp_pure', Jvm.W.theClass, State.vm_setTop, hkA, Option.some.injEq, exists_eq_left', hkindA]
  refine Jvm.W.newArray_of (type := .array .int) hkA hkindA hla hha (by show U.heap.size < _; omega) (by show U.slotsUsed + _ ≤ _; omega) rfl fun acts1 => ?_
  rw [mq_out0 (h := U.heap.size)]
  have hmain : ∀ (d1 : Bool) (acts2 : List Action), wp (do
      for i in [0:a.toNatClampNeg] do
        Jvm.writeLoc U.heap.size i (.ref (← multianewarray.make comp [b]))
      Pure.pure U.heap.size) Q E e d1 acts2 ((U.pushCell (mq_out cA a.toNatClampNeg U.heap.size 0)).setTop f) := by
    intro d1 acts2
    rw [wp_bind', Std.Legacy.Range.forIn_eq_forIn_range']
    refine wp_forIn_inv (fun (r : List Nat) (V : State) => ∃ i, i ≤ a.toNatClampNeg ∧ r = List.range' i (a.toNatClampNeg - i) ∧ V = (mq_st cA comp a.toNatClampNeg b.toNatClampNeg U.heap.size (U.pushCell (mq_out cA a.toNatClampNeg U.heap.size 0)) i).setTop f) _ _ ⟨0, Nat.zero_le _, by simp [Std.Legacy.Range.size], rfl⟩ ?_ ?_
    · intro x r V d' acts' Q' hI hk'
      obtain ⟨i, hi, hr, rfl⟩ := hI
      have hlt : i < a.toNatClampNeg := by
        refine Nat.lt_of_le_of_ne hi fun h => ?_
        rw [h, Nat.sub_self] at hr
        cases hr
      obtain ⟨n, hn⟩ : ∃ n, a.toNatClampNeg - i = n + 1 := ⟨a.toNatClampNeg - i - 1, by omega⟩
      rw [hn, List.range'_succ] at hr
      obtain ⟨hxi, hr2⟩ := List.cons.inj hr
      subst hr2
      rw [hxi]
      obtain ⟨z1, z2, z3, z4⟩ := hst i hlt
      have hmul : (i + 1) * b.toNatClampNeg ≤ a.toNatClampNeg * b.toNatClampNeg := Nat.mul_le_mul_right _ hlt
      rw [Nat.succ_mul] at hmul
      rw [wp_bind']
      refine mq_make1 (V := (mq_st cA comp a.toNatClampNeg b.toNatClampNeg U.heap.size (U.pushCell (mq_out cA a.toNatClampNeg U.heap.size 0)) i).setTop f) (kI := kI) (by rw [State.vm_setTop, z3]; exact hk) hkind hb hlb hhb (by rw [State.heap_setTop, z1]; omega) (by rw [State.slotsUsed_setTop, z4]; omega) fun acts3 => ?_
      rw [State.heap_setTop, z1]
      rw [wp_bind', Jvm.W.writeLoc]
      refine ⟨mq_out cA a.toNatClampNeg U.heap.size i, ?_, (by intro h; cases h), by rw [mq_out_size]; exact hlt, ?_, ?_⟩
      · show ((mq_st cA comp a.toNatClampNeg b.toNatClampNeg U.heap.size (U.pushCell (mq_out cA a.toNatClampNeg U.heap.size 0)) i).heap.push _)[_]? = _
        rw [Array.getElem?_push, if_neg (by omega)]
        exact z2
      · show State.fitsSlot _ cA .none _ _ = true
        simp [State.fitsSlot, State.slotType?, z3, hkA, hkindA, fits]
      · rw [mq_out_set hlt]
        rw [wp_pure']
        exact hk' _ _ _ ⟨i + 1, hlt, by rw [show a.toNatClampNeg - (i + 1) = n from by omega], rfl⟩
    · intro V d' acts' hI
      obtain ⟨i, hi, hr, rfl⟩ := hI
      have : i = a.toNatClampNeg := by
        have := congrArg List.length hr
        simp at this
        omega
      subst this
      rw [wp_pure']
      exact hq _ _
  split
  · rw [hfind]
    exact hmain _ _
  · exact hmain _ _
end
