theorem am_callSU {p : Program} {l : Launch} {e : Env} {R : Room} {s : State} {m : MethodId} {args : Array Value} {below : List Frame} {meth : Method} {c : Code} {T : State} {locs : List Loc} {cells slots : Nat} (X : Stand p l e R s m args below meth c T locs cells slots) (hexec : p.tables.exec = Jvm.exec) {own xc : String} {index : Nat} {y : MethodName} {bytes : ByteArray} {maxL : Nat} {ret : Option FieldType}
    (hown : s.vm.findClass own = some m.cls) (hlink : (Cond.methodLink own index ⟨xc, y.name, y.desc⟩).before args s = true) (hsame : (Cond.sameMethod xc y.cls y.name y.desc).before args s = true) (hsup : (Cond.superclass own xc).before args s = true)
    (hsc : xc = y.cls ∨ (Cond.superclass xc y.cls).before args s = true) (hinst : (Cond.instanceMethod y).before args s = true) (hcode : (Cond.code y bytes maxL ret).before args s = true) (hno : y.name ≠ "<init>")
    {W : Nat} {Pre : Pt → Array Value → Prop} {Post : Pt → Array Value → Option Value → Pt → Prop} (hK : Back l R p e below s args y 3 W Pre Post)
    {b : Addr} {cellB : Cell} {kB : Class} (hcell : T.heap[b]? = some cellB) (hobj : cellB.vm.isStatics = false) (hkB : s.vm.classes[cellB.cls]? = some kB)
    {g : JFrame} (hg : g.method = m) (hsize : g.locals.size = c.maxLocals) {argsL rest : List Value} (hlen : ∀ sig, parseMethodDescriptor y.desc = some sig → argsL.length = sig.parameters.length)
    (hstack : g.stack = argsL.reverse ++ .ref b :: rest) (hW : 2 * g.monitorRoom + (rest.map fun v => v.category).sum ≤ W) (hdg : decode c.code g.pc = .ok (.invokespecial index, 3))
    (hpre : ∀ vm₁, s.WarmedH vm₁ → Pre ⟨T.setVm vm₁, locs, cells, slots⟩ (Value.ref b :: argsL).toArray) :
    ∃ (v : Option Value) (vm₁ : Vm) (B : Pt), s.WarmedH vm₁ ∧ Stand p l e R s m args below meth c B.U B.locs B.cells B.slots ∧ Post ⟨T.setVm vm₁, locs, cells, slots⟩ (Value.ref b :: argsL).toArray v B ∧
      ∀ target, Steps p.tables e below (B.U.setTop { g with pc := g.pc + 3, stack := v.toList ++ rest }) target → Steps p.tables e below (T.setTop g) target := by
  obtain ⟨mk, methM, hnamed, hmethM, hstM, habM⟩ := Cond.instanceMethod_spec hinst
  obtain ⟨methM', cM, hmethM', -, -, -, -, -, -, hsigM⟩ := Cond.code_spec hnamed hcode
  cases hmethM.symm.trans hmethM'
  obtain ⟨ps, dk, kp, hps, hdk, hkp, hsuper, -, -, hnid⟩ := Cond.superclass_spec hown hsup
  have hn : s.methodNamed? ⟨y.cls, y.name, y.desc⟩ = some mk := hnamed
  have hmk := findClass_of_methodNamed hnamed
  have hsub : s.vm.isSubclass ps mk.cls = true := by
    rcases hsc with e | hsc
    · have hpm : ps = mk.cls := Option.some.inj (hps.symm.trans (by rw [e]; exact hmk))
      rw [hpm]; simp [Vm.isSubclass, Vm.isSubclassAux]
    · obtain ⟨p2, k2, kp2, g1, g2, g3, g4, -, -, -⟩ := Cond.superclass_spec hps hsc
      have hpm : p2 = mk.cls := Option.some.inj (g1.symm.trans hmk)
      subst hpm
      have hsz : ps < s.vm.classes.size := (Array.getElem?_eq_some_iff.mp g2).1
      obtain ⟨q, hq⟩ := Nat.exists_eq_succ_of_ne_zero (Nat.ne_of_gt (Nat.lt_of_le_of_lt (Nat.zero_le _) hsz))
      unfold Vm.isSubclass
      rw [hq]
      simp [Vm.isSubclassAux, g2, g4]
  obtain ⟨vm₁, X₁, hstep₁⟩ := X.invokespecialUp hexec (owner := y.cls) (x := ⟨xc, y.name, y.desc⟩) hown hlink hsame hn hmethM hstM habM hno hdk hnid hps hsuper hsub (a := b) (cell := cellB) hcell
    (fun z h => by rw [h] at hobj; cases hobj) hkB (g := g) hg (argsL := argsL) (rest := rest) (hlen _ hsigM) hstack hdg
  obtain ⟨v, B, X', hpost, hsteps⟩ := hK m meth c ⟨T.setVm vm₁, locs, cells, slots⟩ { g with stack := rest } (.invokespecial index) mk (Value.ref b :: argsL).toArray X₁ hg hsize hdg hW (X₁.named hnamed) (hpre vm₁ X₁.warmed)
  exact ⟨v, vm₁, B, X₁.warmed, X', hpost, fun target h => hstep₁ _ (by rw [doInvoke_state]; exact hsteps.trans h)⟩
section
variable {l : Launch} {D : va_G} {cA : FieldType → ClassId} {ad : Nat → Nat} {L : Nat} {xs : Nat → Int32}
variable {p : Program} {e : Env} {R : Room} {s : State} {m : MethodId} {args : Array Value} {below : List Frame} {meth : Method} {c : Code} {H : Heap} {locs : List Loc} {cells slots : Nat} {Z : State → Prop} {pc : Nat} {ls : Array Slot}
variable {M : am_M} {d mi n a b : Nat} {lv : List (Option Value)} {st : List Value} {I : am_I} {Q : am_Q}
/-- what the walk goes on with -/
def am_KK (l : Launch) (D : va_G) (cA : FieldType → ClassId) (ad : Nat → Nat) (L : Nat) (xs : Nat → Int32) (p : Program) (e : Env) (R : Room) (s : State) (m : MethodId) (args : Array Value) (below : List Frame) (meth : Method) (c : Code) (cells slots : Nat) (Z : State → Prop) (M : am_M) (d mi : Nat) (Q : am_Q) : Prop :=
  ∀ (n' : Nat) (lv' : List (Option Value)) (st' : List Value) (I' : am_I) (H' : Heap) (locs' : List Loc) (ls' : Array Slot), am_Jm l D cA ad L xs d mi n' lv' st' I' Q → va_P D vwCl (am_ws cA ad I') H' → va_S (am_A ad) s.heap H' locs' → am_ls ad M mi ls' lv' → W p l e R s m args below meth c H' locs' cells slots Z (F0 m n' ls' (st'.map (am_up ad)))
theorem am_goS (hOk : am_Ok) (hC : am_Cx D cA ad L xs M d p R s m args c cells slots) (hP : va_P D vwCl (am_ws cA ad I) H) (hS : va_S (am_A ad) s.heap H locs) (hl : am_ls ad M mi ls lv) (K : am_KK l D cA ad L xs p e R s m args below meth c cells slots Z M d mi Q) {np idx : Nat} {as rest : List Value}
    (hd : decode M.2.1 pc = .ok (.invokestatic idx, 3)) (hpop : am_pop np st [] = some (as, rest)) (h : am_call am_meth (am_Jm l D cA ad L xs) (am_Jm l D cA ad L xs) b as rest d mi (pc + 3) lv I Q)
    (hw : ∀ M', am_meth b = some M' → am_okd M' np = true ∧ Cond.methodLink M.1.cls idx M'.1 ∈ am_tb ∧ Cond.static M'.1 ∈ am_tb ∧ Cond.initialized M'.1.cls ∈ am_tb) : W p l e R s m args below meth c H locs cells slots Z (F0 m pc ls (st.map (am_up ad))) := by
  obtain ⟨d', M', Q', rfl, hM', hdd, hcw, hsum, hMet, hk⟩ := am_call_use hOk h np (fun M' hM' => (hw M' hM').1)
  obtain ⟨-, w1, w2, w3⟩ := hw M' hM'
  obtain ⟨hdc, hm45, -⟩ := am_okd_use hdd
  obtain ⟨hx, hb, hml, hown, hts, hK, hRd, hcs, hX⟩ := id hC
  obtain ⟨hst, hlen⟩ := am_pop_stack (ad := ad) hpop
  have hg : GoodIn am_tb (va_wsS M.1.cls idx M'.1 (am_wd M')) := by
    intro w hw
    unfold va_wsS at hw
    rcases List.mem_append.mp hw with q | q
    · simp only [List.mem_cons, List.not_mem_nil, or_false] at q
      rcases q with rfl | rfl | rfl
      · exact ⟨w1, am_good _ w1⟩
      · exact ⟨w2, am_good _ w2⟩
      · exact ⟨w3, am_good _ w3⟩
    · exact am_wd_good hcw w q
  refine am_cont (va_runS (As := as.map (am_up ad)) (rest := rest.map (am_up ad)) ⟨hx, hb, hml, hown, hts⟩ hMet (va_cwS np hts hg rfl rfl rfl hdc (am_room hRd hm45)) (am_pre hC hP hS) rfl hlen hl.1 hst (lv_room hsum) hd hcs) hS (fun r I' H1 locs1 q hP1 hS1 => ?_)
  rw [← am_toList]
  exact K _ _ _ _ _ _ _ (hk r I' q) hP1 hS1 hl
theorem am_goSN (hOk : am_Ok) (hC : am_Cx D cA ad L xs M d p R s m args c cells slots) (hP : va_P D vwCl (am_ws cA ad I) H) (hS : va_S (am_A ad) s.heap H locs) (hl : am_ls ad M mi ls lv) (K : am_KK l D cA ad L xs p e R s m args below meth c cells slots Z M d mi Q) {np idx : Nat} {as rest : List Value}
    (hd : decode M.2.1 pc = .ok (.invokestatic idx, 3)) (hpop : am_pop np st [] = some (as, rest)) (h : am_call am_meth (am_Jm l D cA ad L xs) (am_Jm l D cA ad L xs) b as rest d mi (pc + 3) lv I Q)
    (hw : ∀ M', am_meth b = some M' → am_okd M' np = true ∧ (M.1.cls, idx, M'.1, "BrokenLoaves") ∈ am_nest ∧ Cond.static M'.1 ∈ am_tb ∧ Cond.initialized M'.1.cls ∈ am_tb) : W p l e R s m args below meth c H locs cells slots Z (F0 m pc ls (st.map (am_up ad))) := by
  obtain ⟨d', M', Q', rfl, hM', hdd, hcw, hsum, hMet, hk⟩ := am_call_use hOk h np (fun M' hM' => (hw M' hM').1)
  obtain ⟨-, w1, w2, w3⟩ := hw M' hM'
  obtain ⟨hdc, hm45, -⟩ := am_okd_use hdd
  obtain ⟨hx, hb, hml, hown, hts, hK, hRd, hcs, hX⟩ := id hC
  obtain ⟨hst, hlen⟩ := am_pop_stack (ad := ad) hpop
  have hnl := hX.2.2.2 _ w1
  refine am_cont (va_runSN (As := as.map (am_up ad)) (rest := rest.map (am_up ad)) ⟨hx, hb, hml, hown, hts⟩ hMet ⟨va_cnB np hts (am_wd_good hcw) rfl rfl rfl hnl (hts _ w3) hdc (am_room hRd hm45), hts _ w2, trivial⟩ (am_pre hC hP hS) rfl hlen hl.1 hst (lv_room hsum) hd hcs) hS (fun r I' H1 locs1 q hP1 hS1 => ?_)
  rw [← am_toList]
  exact K _ _ _ _ _ _ _ (hk r I' q) hP1 hS1 hl
theorem am_goV (hOk : am_Ok) (hC : am_Cx D cA ad L xs M d p R s m args c cells slots) (hP : va_P D vwCl (am_ws cA ad I) H) (hS : va_S (am_A ad) s.heap H locs) (hl : am_ls ad M mi ls lv) (K : am_KK l D cA ad L xs p e R s m args below meth c cells slots Z M d mi Q) {np idx o ci : Nat} {as rest : List Value}
    (hd : decode M.2.1 pc = .ok (.invokevirtual idx, 3)) (hpop : am_pop np st [] = some (as, .ref o :: rest)) (ho : am_G o = some (.inl ci)) (h : am_call am_meth (am_Jm l D cA ad L xs) (am_Jm l D cA ad L xs) b (.ref o :: as) rest d mi (pc + 3) lv I Q)
    (hw : ∀ M', am_meth b = some M' → am_okd M' np = true ∧ M'.1.cls = am_cname ci ∧ Cond.methodLink M.1.cls idx M'.1 ∈ am_tb ∧ Cond.instanceMethod M'.1 ∈ am_tb ∧ Cond.selects (am_cname ci) M'.1 M'.1 ∈ am_tb ∧ Cond.initialized (am_cname ci) ∈ am_tb) : W p l e R s m args below meth c H locs cells slots Z (F0 m pc ls (st.map (am_up ad))) := by
  obtain ⟨d', M', Q', rfl, hM', hdd, hcw, hsum, hMet, hk⟩ := am_call_use hOk h np (fun M' hM' => (hw M' hM').1)
  obtain ⟨-, w0, w1, w2, w3, w4⟩ := hw M' hM'
  obtain ⟨hdc, hm45, -⟩ := am_okd_use hdd
  obtain ⟨hx, hb, hml, hown, hts, hK, hRd, hcs, hX⟩ := id hC
  obtain ⟨hst, hlen⟩ := am_pop_stack (ad := ad) hpop
  have hg : GoodIn am_tb (wsV M.1.cls idx (am_cname ci) M'.1 (am_wd M')) := by
    intro w hw
    unfold wsV at hw
    rcases List.mem_append.mp hw with q | q
    · simp only [List.mem_cons, List.not_mem_nil, or_false] at q
      rcases q with rfl | rfl | rfl | rfl
      · exact ⟨w1, am_good _ w1⟩
      · exact ⟨w2, am_good _ w2⟩
      · exact ⟨w3, am_good _ w3⟩
      · exact ⟨w4, am_good _ w4⟩
    · exact am_wd_good hcw w q
  refine am_cont (va_runV (C := am_cname ci) (b := ad o) (As := as.map (am_up ad)) (rest := rest.map (am_up ad)) ⟨hx, hb, hml, hown, hts⟩ hMet (cwV np hts hg rfl rfl rfl ⟨w0, hdc⟩ (am_room hRd hm45)) (am_preV hC hP hS ho) rfl hlen hl.1 hst (lv_room hsum) hd hcs) hS (fun r I' H1 locs1 q hP1 hS1 => ?_)
  rw [← am_toList]
  exact K _ _ _ _ _ _ _ (hk r I' q) hP1 hS1 hl
theorem am_goU (hOk : am_Ok) (hC : am_Cx D cA ad L xs M d p R s m args c cells slots) (hP : va_P D vwCl (am_ws cA ad I) H) (hS : va_S (am_A ad) s.heap H locs) (hl : am_ls ad M mi ls lv) (K : am_KK l D cA ad L xs p e R s m args below meth c cells slots Z M d mi Q) {np idx o ci : Nat} {as rest : List Value} {x : MethodName} {owner : String}
    (hd : decode M.2.1 pc = .ok (.invokevirtual idx, 3)) (hpop : am_pop np st [] = some (as, .ref o :: rest)) (ho : am_G o = some (.inl ci)) (h : am_call am_meth (am_Jm l D cA ad L xs) (am_Jm l D cA ad L xs) b (.ref o :: as) rest d mi (pc + 3) lv I Q)
    (hxo : (∃ b0 m0 r0, Cond.code ⟨owner, x.name, x.desc⟩ b0 m0 r0 ∈ am_tb) ∧ (owner ≠ "java/lang/invoke/MethodHandle" ∧ owner ≠ "java/lang/invoke/VarHandle" ∧ (parseMethodDescriptor x.desc).map (fun d => d.parameters.length) = some np) ∧ Cond.methodLink M.1.cls idx x ∈ am_tb ∧ Cond.sameMethod x.cls owner x.name x.desc ∈ am_tb ∧ Cond.instanceMethod ⟨owner, x.name, x.desc⟩ ∈ am_tb)
    (hw : ∀ M', am_meth b = some M' → am_okd M' np = true ∧ Cond.selects (am_cname ci) x M'.1 ∈ am_tb ∧ Cond.instanceMethod M'.1 ∈ am_tb ∧ Cond.initialized M'.1.cls ∈ am_tb) : W p l e R s m args below meth c H locs cells slots Z (F0 m pc ls (st.map (am_up ad))) := by
  obtain ⟨d', M', Q', rfl, hM', hdd, hcw, hsum, hMet, hk⟩ := am_call_use hOk h np (fun M' hM' => (hw M' hM').1)
  obtain ⟨-, w1, w2, w3⟩ := hw M' hM'
  obtain ⟨⟨b0, m0, r0, h0⟩, hdx, w4, w5, w6⟩ := hxo
  obtain ⟨hdc, hm45, -⟩ := am_okd_use hdd
  obtain ⟨hx, hb, hml, hown, hts, hK, hRd, hcs, hX⟩ := id hC
  obtain ⟨hst, hlen⟩ := am_pop_stack (ad := ad) hpop
  have hg : GoodIn am_tb (va_wsO M.1.cls idx (am_cname ci) owner x M'.1 (am_wd M')) := by
    intro w hw
    unfold va_wsO at hw
    rcases List.mem_append.mp hw with q | q
    · simp only [List.mem_cons, List.not_mem_nil, or_false] at q
      rcases q with rfl | rfl | rfl | rfl | rfl | rfl
      · exact ⟨w4, am_good _ w4⟩
      · exact ⟨w5, am_good _ w5⟩
      · exact ⟨w6, am_good _ w6⟩
      · exact ⟨w1, am_good _ w1⟩
      · exact ⟨w2, am_good _ w2⟩
      · exact ⟨w3, am_good _ w3⟩
    · exact am_wd_good hcw w q
  refine am_cont (va_runU (C := am_cname ci) (owner := owner) (x := x) (b := ad o) (As := as.map (am_up ad)) (rest := rest.map (am_up ad)) ⟨hx, hb, hml, hown, hts⟩ hMet (va_cwO np hts hg rfl rfl rfl h0 hdx (am_room hRd hm45)) (am_preV hC hP hS ho) rfl hlen hl.1 hst (lv_room hsum) hd hcs) hS (fun r I' H1 locs1 q hP1 hS1 => ?_)
  rw [← am_toList]
  exact K _ _ _ _ _ _ _ (hk r I' q) hP1 hS1 hl
theorem am_goSU (hOk : am_Ok) (hC : am_Cx D cA ad L xs M d p R s m args c cells slots) (hP : va_P D vwCl (am_ws cA ad I) H) (hS : va_S (am_A ad) s.heap H locs) (hl : am_ls ad M mi ls lv) (K : am_KK l D cA ad L xs p e R s m args below meth c cells slots Z M d mi Q) {np idx o ci : Nat} {as rest : List Value} {xc : String}
    (hd : decode M.2.1 pc = .ok (.invokespecial idx, 3)) (hpop : am_pop np st [] = some (as, .ref o :: rest)) (ho : am_G o = some (.inl ci)) (h : am_call am_meth (am_Jm l D cA ad L xs) (am_Jm l D cA ad L xs) b (.ref o :: as) rest d mi (pc + 3) lv I Q)
    (hw : ∀ M', am_meth b = some M' → am_okd M' np = true ∧ M'.1.name ≠ "<init>" ∧ Cond.methodLink M.1.cls idx ⟨xc, M'.1.name, M'.1.desc⟩ ∈ am_tb ∧ Cond.sameMethod xc M'.1.cls M'.1.name M'.1.desc ∈ am_tb ∧ Cond.superclass M.1.cls xc ∈ am_tb ∧ Cond.instanceMethod M'.1 ∈ am_tb ∧ Cond.initialized M'.1.cls ∈ am_tb ∧ (xc = M'.1.cls ∨ Cond.superclass xc M'.1.cls ∈ am_tb)) : W p l e R s m args below meth c H locs cells slots Z (F0 m pc ls (st.map (am_up ad))) := by
  obtain ⟨d', M', Q', rfl, hM', hdd, hcw, hsum, hMet, hk⟩ := am_call_use hOk h np (fun M' hM' => (hw M' hM').1)
  obtain ⟨-, w0, w1, w2, w3, w4, w5, w6⟩ := hw M' hM'
  obtain ⟨hdc, hm45, -⟩ := am_okd_use hdd
  obtain ⟨hx, hb, hml, hown, hts, hK, hRd, hcs, hX⟩ := id hC
  obtain ⟨hst, hlen⟩ := am_pop_stack (ad := ad) hpop
  obtain ⟨hbl, ⟨cellB, hcB, hoB, hclB⟩, hPc⟩ := am_preV (L := L) (xs := xs) (as := as) hC hP hS ho
  have hrm := am_room hRd hm45
  have hBk : Back l R p e below s args M'.1 3 8 (PreOf R 0 0 (va_Pc ((Value.ref o :: as).map (am_up ad)) (am_Wd D cA ad L xs I))) (PostOf (am_Qc D cA ad Q') 0 0 (am_A ad)) :=
    back_of (bytes := M'.2.1) (maxL := M'.2.2.1) (ret := M'.2.2.2.1) hMet hbl rfl rfl hrm.1 hrm.2 (pay_in hts (am_wd_good hcw)) List.mem_cons_self (fun a' U hW => word_at hW (Or.inl (by first | rfl | simp [Cond.onTables, Cond.keeps, Cond.steady])) (hts _ w5))
  have hlt := am_G_ci ho
  obtain ⟨q9, hq9⟩ : ∃ q, vwCl[ci]? = some q := ⟨vwCl[ci], List.getElem?_eq_getElem (by simpa using hlt)⟩
  obtain ⟨-, hfc, kB, hkB, -⟩ := hK.1 ci q9 hq9
  have hn9 : am_cname ci = q9.1 := by unfold am_cname; rw [hq9]
  rw [hn9] at hclB
  have hcc : cellB.cls = D.1 ci := Option.some.inj (hclB.symm.trans hfc)
  have hrun : va_Run p l e R s m args below meth c H locs cells slots 0 0 (F0 m pc ls (st.map (am_up ad))) (rest.map (am_up ad)) (am_Qc D cA ad Q' (Value.ref (ad o) :: as.map (am_up ad)).toArray) (am_A ad) := by
    intro T hT X
    obtain ⟨v, vm₁, ⟨U', l2, c2, s2⟩, hW₁, X', ⟨g', mk, t, L2, e1, e2, hq, h1, hL, h2, h3⟩, st3⟩ := am_callSU X hx (bytes := M'.2.1) (maxL := M'.2.2.1) (ret := M'.2.2.2.1) hown (hts _ w1) (hts _ w2) (hts _ w3) (w6.imp id (hts _)) (hts _ w4) (hts _ hcw) w0 hBk (by rw [hT]; exact hcB) hoB (by rw [hcc]; exact hkB) (g := F0 m pc ls (st.map (am_up ad))) rfl (hl.1.trans hml.symm) (argsL := as.map (am_up ad)) (rest := rest.map (am_up ad)) (fun sig h => by
        have h9 := hdc.2.2
        rw [h] at h9
        exact hlen.trans (Option.some.inj h9).symm) hst (lv_room hsum) (by rw [hb]; exact hd)
      (fun vm₁ hW₁ => ⟨hcs.1, hcs.2, hPc (T.setVm vm₁) hT hW₁⟩)
    dsimp only [Pt.U, Pt.locs, Pt.cells, Pt.slots] at X' e1 e2 h1 h2 h3 st3
    subst h1; subst h2; subst h3
    exact ⟨v, (T.setVm vm₁).calling g' mk (Value.ref (ad o) :: as.map (am_up ad)).toArray, t, U', L2, hT, X', hL, e1, e2, hq, st3⟩
  refine am_cont hrun hS (fun r I' H1 locs1 q hP1 hS1 => ?_)
  rw [← am_toList]
  exact K _ _ _ _ _ _ _ (hk r I' q) hP1 hS1 hl
end
