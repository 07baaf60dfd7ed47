/-! multianewarray: the row, and what the constructors' machine asks of it -/
section
variable {p : Program} {l : Launch} {e : Env} {R : Room} {s : State} {m : MethodId} {args : Array Value} {below : List Frame} {meth : Method} {c : Code} {H : Heap} {locs : List Loc} {cells slots : Nat} {Q : State → Prop}
set_option maxHeartbeats 1000000 in
theorem mq_W {cc : ByteArray} (hexec : p.tables.exec = Jvm.exec) (hb : c.code = cc) {own : String} {index : Nat} (hown : s.vm.findClass own = some m.cls) (hclink : (Cond.classLink own index "[[I").before args s = true) {cA comp cI : ClassId} {kA kI : Class} (hA : s.vm.findClass "[[I" = some cA) (hkA : s.vm.classes[cA]? = some kA) (hkindA : kA.kind = .array comp (.array .int)) (hkI : s.vm.classes[comp]? = some kI) (hkindI : kI.kind = .array cI .int)
    {g : JFrame} (hg : g.method = m) (hdg : decode cc g.pc = .ok (.multianewarray index 2, 4)) {a b : Int32} {rest : List Value} (hstack : g.stack = .int b :: .int a :: rest) (ha : ¬ a < 0) (hb0 : ¬ b < 0) (ha1 : a.toNatClampNeg < 1000) (hb1 : b.toNatClampNeg < 1000) (hcells : cells + (1 + a.toNatClampNeg) ≤ R.cells) (hslots : slots + (a.toNatClampNeg + a.toNatClampNeg * b.toNatClampNeg) ≤ R.slots)
    (kk : ∀ (H1 : Heap) (L : List Loc), (∀ q ∈ L, q.base = H.size) → H1.size = H.size + 1 + a.toNatClampNeg → H1[H.size]? = some (mq_out cA a.toNatClampNeg H.size a.toNatClampNeg) → (∀ j, j < a.toNatClampNeg → H1[H.size + 1 + j]? = some (mq_in comp b.toNatClampNeg)) → (∀ q, q < H.size → H1[q]? = H[q]?) →
      W p l e R s m args below meth c H1 (locs ++ L) (cells + (1 + a.toNatClampNeg)) (slots + (a.toNatClampNeg + a.toNatClampNeg * b.toNatClampNeg)) Q { g with pc := g.pc + 4, stack := .ref H.size :: rest }) : W p l e R s m args below meth c H locs cells slots Q g := by
  intro T hT X
  subst hT; subst hb; subst hg
  have hpl : e.platform.magicAccessors = ({} : Platform).magicAccessors := by rw [X.admits.platform]
  obtain ⟨cc', hfcc, hcl⟩ := Cond.classLink_spec hown hclink e.platform hpl
  cases hA.symm.trans hfcc
  obtain ⟨hg₁, hwarm₁, hready₁⟩ := State.classEntry (e := e) X.warmed hcl
  generalize T.vm.noted g.method.cls index (.cls cA) = vm₁ at hg₁ hwarm₁ hready₁
  have hal : s.vm.Alike vm₁ := hwarm₁.alike
  have hal2 : T.vm.Alike vm₁ := X.warmed.alike.symm.trans hal
  obtain ⟨kA₁, hkA₁, heA⟩ := hal.2.2 _ _ hkA
  obtain ⟨kI₁, hkI₁, heI⟩ := hal.2.2 _ _ hkI
  have hkindA₁ : kA₁.kind = .array comp (.array .int) := by rw [heA]; exact hkindA
  have hkindI₁ : kI₁.kind = .array cI .int := by rw [heI]; exact hkindI
  have X₁ := X.noted hwarm₁
  obtain ⟨hr1, hr2⟩ := X.roomAbove hcells hslots
  have hall := mq_all (T := T) (vm₁ := vm₁) (cA := cA) (comp := comp) (N := a.toNatClampNeg) (M := b.toNatClampNeg) X₁
  obtain ⟨L, hX, hL, hz, ho, hj, hq, hv, hu⟩ := hall a.toNatClampNeg (Nat.le_refl _)
  have htop := hX.here.top
  obtain ⟨t', a1, b1⟩ := kk _ L hL hz ho hj hq _ rfl (by rw [← Nat.add_assoc, ← Nat.add_assoc]; exact hX)
  refine ⟨t', ?_, b1⟩
  refine Steps.instr (c := _) (by simpa using X.here) ?_
  rw [hdg]
  dsimp only
  rw [hexec]
  show wp (multianewarray.sem index 2) _ _ e false [] (T.setTop g)
  have hla : ∀ x : Nat, x < 1000 → ¬ x > e.platform.arrayLengthLimit := fun x hx => by rw [Launch.admits_arrayLengthLimit X.admits]; omega
  have hha : ∀ x : Nat, x < 1000 → ¬ x * 4 > e.platform.maxHeapBytes := fun x hx => by rw [Launch.admits_maxHeapBytes X.admits]; omega
  unfold multianewarray.sem
  rw [wp_bind', Jvm.W.resolveClassAt_links (t := T.setTop g) (State.method?_setTop g X.here.top) hg₁ (Vm.Alike.size_le hal2), State.setVm_setTop]
  have htop1 : (T.setVm vm₁).topJava?.isSome := X.here.top
  simp only [wp_bind']
  rw [Jvm.W.popN, if_neg (by decide)]
  refine ⟨g, State.topJava?_setTop' g htop1, [.int a, .int b], rest, rfl, by rw [hstack]; rfl, ?_⟩
  simp only [List.mapM_cons, List.mapM_nil, wp_bind', wp_pure', State.setTop_setTop]
  refine mq_make (U := T.setVm vm₁) (f := { g with stack := rest }) (kA := kA₁) (kI := kI₁) hkA₁ hkindA₁ hkI₁ hkindI₁ ha hb0 (hla _ ha1) (hha _ ha1) (hla _ hb1) (hha _ hb1) hr1 hr2 (fun i hi => ?_) (fun d' acts' => ?_)
  · obtain ⟨L', -, -, y1, y2, -, -, y3, y4⟩ := hall i (Nat.le_of_lt hi)
    exact ⟨y1, y2, y3, y4⟩
  · rw [wp_bind', Jvm.W.mark, Jvm.W.pushRef]
    refine ⟨_, State.topJava?_setTop' _ htop, ?_⟩
    intro acts
    rw [State.setTop_setTop, afterInstr_ok]
    exact a1
end
theorem mq_at {nx N M k : Nat} {x : Nat × cm_E} (h : (cm_mna nx N M)[k]? = some x) : k ≤ N ∧ x.1 = nx + k ∧ x.2 = (match k with
    | 0 => (.inl (.array .int, N, (List.range N).map fun i => .ref (nx + 1 + i)) : cm_E)
    | _ + 1 => .inl (.int, M, List.replicate M (.int 0))) := by
  unfold cm_mna at h
  cases k with
  | zero =>
    cases h
    exact ⟨Nat.zero_le _, rfl, rfl⟩
  | succ k =>
    rw [List.getElem?_cons_succ, List.getElem?_map, Option.map_eq_some_iff] at h
    obtain ⟨i, hi, rfl⟩ := h
    obtain ⟨h1, h2⟩ := List.getElem?_eq_some_iff.mp hi
    rw [List.length_range] at h1
    rw [List.getElem_range] at h2
    subst h2
    exact ⟨h1, by show nx + 1 + k = nx + (k + 1); omega, rfl⟩
def mq_ad (ad : Nat → Nat) (nx z N : Nat) : Nat → Nat := fun i => if nx ≤ i ∧ i ≤ nx + N then z + (i - nx) else ad i
theorem mq_ad_ag {ad : Nat → Nat} {nx z N : Nat} : cm_ag nx ad (mq_ad ad nx z N) := fun i hi => by unfold mq_ad; rw [if_neg (by omega)]
theorem mq_ad_at {ad : Nat → Nat} {nx z N k : Nat} (h : k ≤ N) : mq_ad ad nx z N (nx + k) = z + k := by unfold mq_ad; rw [if_pos (by omega)]; omega
theorem mq_ro {cA : ClassId} {ad : Nat → Nat} {nx z N : Nat} : vp_cell cA (N, cm_ar (mq_ad ad nx z N) (.array .int) ((List.range N).map fun i => .ref (nx + 1 + i))) = mq_out cA N z N := by
  show arrV cA N (fun j => va_rf (cm_rr _ (((List.range N).map fun i => Value.ref (nx + 1 + i)).getD j .null))) = _
  unfold arrV mq_out
  congr 2
  funext j
  dsimp only
  rw [if_pos j.isLt, List.getD_eq_getElem?_getD, List.getElem?_map, List.getElem?_range j.isLt]
  show Value.ref (mq_ad ad nx z N (nx + 1 + j.val)) = _
  rw [Nat.add_assoc, mq_ad_at (by have := j.isLt; omega), Nat.add_assoc]
theorem mq_ri {cA : ClassId} {ad : Nat → Nat} {M : Nat} : vp_cell cA (M, cm_ar ad .int (List.replicate M (.int 0))) = mq_in cA M := by
  show arrV cA M (fun j => .int (cm_ri ((List.replicate M (Value.int 0)).getD j .null))) = _
  simp only [cm_ri_rep]
  exact (arrV_new cA M (.int 0)).symm
set_option maxHeartbeats 1000000 in
theorem cm_mnaok : cm_MnaOk := by
  intro D cA wr A M p l e R s m args below meth c Z n0 ad0 hC hMc pc lv st C nx k n a b hcls hd hpa hpb hfr hk hn hn0 K
  obtain ⟨hx, hb, hml, hown, hts, hK, hA, hin, hX, hR⟩ := hC
  intro ad H locs ls hag hI
  obtain ⟨hP, hD, hS, hl⟩ := hI
  dsimp only at hP hD hS hl ⊢
  obtain ⟨pa1, pa2, -⟩ := cm_pos_use hpa
  obtain ⟨pb1, pb2, -⟩ := cm_pos_use hpb
  obtain ⟨c2, comp, k2, x1, x2, x3, x4⟩ := hX.2.2.2
  obtain ⟨t5, ht5⟩ := cm_tl_at (cA := cA) (ty := .array .int) (by decide)
  obtain ⟨t0, ht0⟩ := cm_tl_at (cA := cA) (ty := .int) (by decide)
  have e5 : s.vm.findClass "[[I" = some (cA (.array .int)) := (hK.2 t5 _ ht5).2
  have e0 : s.vm.findClass "[I" = some (cA .int) := (hK.2 t0 _ ht0).2
  obtain ⟨-, kI, y1, cI, y2⟩ := (hK.2 t0 _ ht0).1 0 (fun _ => .null)
  have hc2 := Option.some.inj (e5.symm.trans x1)
  have hc0 := Option.some.inj (e0.symm.trans x4)
  subst hc2; subst hc0
  have hlink : (Cond.classLink M.2.1.1 78 "[[I").before args s = true := by
    rw [← hMc, hcls]
    exact hts _ (tb_in (by decide +kernel))
  refine mq_W hx hb hown hlink x1 x2 x3 y1 y2 rfl hd rfl pa1 pb1 pa2 pb2 (Nat.le_trans hk hR.1) (Nat.le_trans hn hR.2) fun H1 L hL hz ho hj hq => ?_
  unfold cm_fresh at hfr
  rw [Bool.and_eq_true, Bool.and_eq_true] at hfr
  have ag := mq_ad_ag (ad := ad) (nx := nx) (z := H.size) (N := a.toNatClampNeg)
  have hnew : ∀ (j : Nat) (q : Nat × va_E), (cm_w cA (mq_ad ad nx H.size a.toNatClampNeg) (cm_mna nx a.toNatClampNeg b.toNatClampNeg))[j]? = some q → q.1 = H.size + j ∧ va_at D vwCl q H1 := by
    intro j q hj'
    unfold cm_w at hj'
    rw [List.getElem?_map, Option.map_eq_some_iff] at hj'
    obtain ⟨x, hx', rfl⟩ := hj'
    obtain ⟨z1, z2, z3⟩ := mq_at hx'
    have z4 : mq_ad ad nx H.size a.toNatClampNeg x.1 = H.size + j := by rw [z2, mq_ad_at z1]
    refine ⟨z4, ?_⟩
    rw [z4, z3]
    cases j with
    | zero =>
      show H1[H.size + 0]? = some (vp_cell (cA (.array .int)) _)
      rw [mq_ro, Nat.add_zero]
      exact ho
    | succ j =>
      show H1[H.size + (j + 1)]? = some (vp_cell (cA .int) _)
      rw [mq_ri, show H.size + (j + 1) = H.size + 1 + j from by omega]
      exact hj j (by omega)
  have e1 : wr ++ cm_w cA (mq_ad ad nx H.size a.toNatClampNeg) (C ++ cm_mna nx a.toNatClampNeg b.toNatClampNeg) = (wr ++ cm_w cA ad C) ++ cm_w cA (mq_ad ad nx H.size a.toNatClampNeg) (cm_mna nx a.toNatClampNeg b.toNatClampNeg) := by
    rw [← cm_ag_c ag hfr.2.2]
    unfold cm_w
    rw [List.map_append, List.append_assoc]
  have hP1 : va_P D vwCl (wr ++ cm_w cA (mq_ad ad nx H.size a.toNatClampNeg) (C ++ cm_mna nx a.toNatClampNeg b.toNatClampNeg)) H1 := by
    rw [e1]
    exact (hP.kept (fun j q h => hq q.1 ((hP j q h).lt))).app (fun j q h => (hnew j q h).2)
  have hAz : ∀ j : Nat, A (H.size + j) := fun j => hA _ (Nat.le_trans hS.1 (Nat.le_add_right _ _))
  have hD1 : va_D A (wr ++ cm_w cA (mq_ad ad nx H.size a.toNatClampNeg) (C ++ cm_mna nx a.toNatClampNeg b.toNatClampNeg)) := by
    rw [e1]
    refine hD.app ⟨fun i j p q h1 h2 h3 => ?_, fun j q h => ?_⟩ (fun i j p q h1 h2 => ?_)
    · have := (hnew i p h1).1
      have := (hnew j q h2).1
      omega
    · rw [(hnew j q h).1]
      exact hAz j
    · have h3 := (hP i p h1).lt
      have h4 := (hnew j q h2).1
      omega
  have hS1 : va_S A s.heap H1 (locs ++ L) := by
    refine ⟨Nat.le_trans hS.1 (by omega), fun q h1 h2 => (hq q (Nat.lt_of_lt_of_le h1 hS.1)).trans (hS.2.1 q h1 h2), fun q h => ?_⟩
    rcases List.mem_append.mp h with h | h
    · exact hS.2.2 q h
    · rw [hL q h]
      exact hAz 0
  have h := K (mq_ad ad nx H.size a.toNatClampNeg) H1 (locs ++ L) ls (fun i hi => by rw [ag i (by omega)]; exact hag i hi) ⟨hP1, hD1, hS1, by dsimp only; rw [cm_ag_u ag hfr.1]; exact hl⟩
  have e2 : (Value.ref nx :: st).map (am_up (mq_ad ad nx H.size a.toNatClampNeg)) = .ref H.size :: st.map (am_up ad) := by
    rw [List.map_cons, (cm_ag_l ag hfr.2.1).1]
    show Value.ref (mq_ad ad nx H.size a.toNatClampNeg nx) :: _ = _
    have := mq_ad_at (ad := ad) (nx := nx) (z := H.size) (N := a.toNatClampNeg) (k := 0) (Nat.zero_le _)
    rw [Nat.add_zero, Nat.add_zero] at this
    rw [this]
  dsimp only at h
  rw [e2] at h
  exact h
