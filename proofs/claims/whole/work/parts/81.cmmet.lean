/-- what multianewarray does -/
def cm_MnaOk : Prop := ∀ (D : va_G) (cA : FieldType → ClassId) (wr : va_W) (A : Nat → Prop) (M : cm_M) (p : Program) (l : Launch) (e : Env) (R : Room) (s : State) (m : MethodId) (args : Array Value) (below : List Frame) (meth : Method) (c : Code) (Z : State → Prop) (n0 : Nat) (ad0 : Nat → Nat),
  cm_Cx D cA A M.2.1 M.2.2.2.1 M.2.2.2.2.1 p R s m args meth c → M.1.cls = M.2.1.1 → ∀ (pc : Nat) (lv : cm_L) (st : List Value) (C : cm_C) (nx k n : Nat) (a b : Int32), M.1.cls = RX11 → decode M.2.1.2.1 pc = .ok (.multianewarray 78 2, 4) → cm_pos a 1000 = true → cm_pos b 1000 = true → cm_fresh nx lv st C = true → k + (1 + a.toNatClampNeg) ≤ M.2.2.2.1 → n + (a.toNatClampNeg + a.toNatClampNeg * b.toNatClampNeg) ≤ M.2.2.2.2.1 → n0 ≤ nx →
      cm_G D cA wr A M.2.1 p l e R s m args below meth c Z n0 ad0 (pc + 4, lv, .ref nx :: st, C ++ cm_mna nx a.toNatClampNeg b.toNatClampNeg, nx + 1 + a.toNatClampNeg, k + (1 + a.toNatClampNeg), n + (a.toNatClampNeg + a.toNatClampNeg * b.toNatClampNeg)) → cm_G D cA wr A M.2.1 p l e R s m args below meth c Z n0 ad0 (pc, lv, .int b :: .int a :: st, C, nx, k, n)
def cm_msp (M : cm_M) (sp : Nat) : cm_M := (M.1, M.2.1, sp, M.2.2.2)
/-- a run in pieces -/
def cm_Rl (call : Nat → cm_S → Option cm_S) (M : cm_M) (n0 : Nat) : List (Nat × Nat × cm_S) → cm_S → cm_S → Prop
  | [], S, S1 => S = S1
  | x :: l, S, S1 => cm_lp call (cm_msp M x.1) x.2.1 S = some x.2.2 ∧ n0 ≤ x.2.2.2.2.2.2.1 ∧ cm_Rl call M n0 l x.2.2 S1
theorem cm_args_ln {av : List Value} {lv : cm_L} (h : cm_args av = some lv) : av.length = lv.length := by
  unfold cm_args at h
  split at h <;> cases h <;> rfl
theorem cm_args_len {av : List Value} {lv : cm_L} (h : cm_args av = some lv) (ad : Nat → Nat) {n : Nat} (hn : av.length ≤ n) : (lg_sl (av.map (am_up ad))).length ≤ n ∧ ∀ ls : Array Slot, lv_has ls n (lv_args 0 (av.map (am_up ad))) → lv_has ls n (cm_ul ad lv) := by
  unfold cm_args at h
  split at h <;> cases h <;> exact ⟨hn, fun ls h => h⟩
theorem cm_Rl_sound {l : Launch} {D : va_G} {cA : FieldType → ClassId} {wr : va_W} {A : Nat → Prop} {M : cm_M} {p : Program} {e : Env} {R : Room} {s : State} {m : MethodId} {args : Array Value} {below : List Frame} {meth : Method} {c : Code} {Z : State → Prop} {n0 : Nat} {ad0 : Nat → Nat} {d : Nat} (hmna : cm_MnaOk) {call : Nat → cm_S → Option cm_S} (hcall : cm_CallOk l D cA d call) (hC : cm_Cx D cA A M.2.1 M.2.2.2.1 M.2.2.2.2.1 p R s m args meth c) (hOk : cm_okM M = true) (hMc : M.1.cls = M.2.1.1) (hN : cm_N s) (hRd : d + 1 ≤ R.frames ∧ 64 * (d + 1) ≤ R.locals) :
    ∀ (segs : List (Nat × Nat × cm_S)) (S S1 : cm_S), cm_Rl call M n0 segs S S1 → n0 ≤ S.2.2.2.2.1 → cm_G D cA wr A M.2.1 p l e R s m args below meth c Z n0 ad0 S1 → cm_G D cA wr A M.2.1 p l e R s m args below meth c Z n0 ad0 S
  | [], S, S1, h, _, K => by cases h; exact K
  | x :: segs, S, S1, h, hn, K => cm_lp_sound (M := cm_msp M x.1) hcall hC hOk hN hRd (hmna D cA wr A (cm_msp M x.1) p l e R s m args below meth c Z n0 ad0 hC hMc) x.2.1 S x.2.2 h.1 hn (cm_Rl_sound hmna hcall hC hOk hMc hN hRd segs x.2.2 S1 h.2.2 h.2.1 K)
set_option maxHeartbeats 4000000 in
theorem cm_met {l : Launch} {D : va_G} {cA : FieldType → ClassId} (hmna : cm_MnaOk) {d : Nat} {call : Nat → cm_S → Option cm_S} (hcall : cm_CallOk l D cA d call) {M : cm_M} (hOk : cm_okM M = true) (hE : cm_okE M = true) {av : List Value} {lv lv' : cm_L} {C C' : cm_C} {nx nx' k' n' : Nat} {segs : List (Nat × Nat × cm_S)} (hargs : cm_args av = some lv) (hlen : av.length ≤ M.2.1.2.2.1)
    (hrun : cm_Rl call M nx segs (0, lv, [], C, nx, 0, 0) (M.2.2.1, lv', [], C', nx', k', n')) (hk : k' ≤ M.2.2.2.1) (hn : n' ≤ M.2.2.2.2.1) : cm_Met l D cA (d + 1) M av C C' nx := by
  intro wr A ad
  simp only [cm_okE, Bool.and_eq_true, decide_eq_true_eq] at hE
  obtain ⟨hpl, hret, hini, -⟩ := hE
  refine Met.ofW (cc := M.2.1.2.1) (maxL := M.2.1.2.2.1) (ret := none) hpl rfl ?_
  intro p e s m args below meth c s₁ B hml hv
  obtain ⟨rfl, hP, hD, hA, hK, hX, hN⟩ := hv
  have hts0 := atoms_spec (ws := cm_wd M) B.pre
  have hts : ∀ w ∈ am_tb, w.before (av.map (am_up ad)).toArray s = true := fun w hw => hts0 w (List.mem_cons_of_mem _ hw)
  have hMc : M.1.cls = M.2.1.1 := by
    have := hOk
    simp only [cm_okM, Bool.and_eq_true, decide_eq_true_eq] at this
    exact this.2.1
  have hown : s.vm.findClass M.2.1.1 = some m.cls := by rw [← hMc]; exact findClass_of_methodNamed B.named
  have hlocks := B.notSynchronized
  have hnm : meth.name = M.1.name := (name_of_methodNamed B.named B.method).1
  have hl := lv_entry (av.map (am_up ad)) (n := M.2.1.2.2.1) (cm_args_len hargs ad hlen).1
  rw [lg_entry_eq]
  generalize (lg_sl (av.map (am_up ad)) ++ List.replicate (M.2.1.2.2.1 - (lg_sl (av.map (am_up ad))).length) Slot.unset).toArray = ls at hl ⊢
  have hl := (cm_args_len hargs ad hlen).2 ls hl
  have hC : cm_Cx D cA A M.2.1 M.2.2.2.1 M.2.2.2.2.1 p (cm_rm (d + 1) M) s m (av.map (am_up ad)).toArray meth c := ⟨B.exec, B.bytes, hml, hown, hts, hK, hA, fun h => by rcases hini with q | q; exact absurd q h; exact hnm.trans q, hX, ⟨Nat.le_refl _, Nat.le_refl _⟩⟩
  refine cm_Rl_sound (n0 := nx) (ad0 := ad) (wr := wr) hmna hcall hC hOk hMc hN ⟨Nat.le_refl _, Nat.le_refl _⟩ segs _ _ hrun (Nat.le_refl _) ?_ ad s.heap [] ls (fun _ _ => rfl) ⟨hP, hD, va_S.rf, hl⟩
  intro ad' H locs ls' hag hI
  obtain ⟨hP', hD', hS', hl'⟩ := hI
  refine W.widen (k := M.2.2.2.1) (n := M.2.2.2.2.1) hk hn ?_
  exact W.vret B.exec B.bytes B.returns (fun t ht hW => ⟨⟨(), rfl, trivial, ad', hag, by rw [ht]; exact hP', hD'⟩, hS'.F ht⟩) hS'.2.2 hret
theorem cm_mt_ok {b : Nat} {M : cm_M} (h : am_nth cm_mt b = some M) : cm_okM M = true ∧ cm_okE M = true := by
  have hm : M ∈ cm_mt := List.mem_of_getElem? (by rw [← am_nth_get]; exact h)
  exact ⟨List.all_eq_true.mp cm_okM_all M hm, List.all_eq_true.mp cm_okE_all M hm⟩
theorem cm_go_ok {l : Launch} {D : va_G} {cA : FieldType → ClassId} (hmna : cm_MnaOk) : ∀ d, cm_CallOk l D cA d (cm_go d)
  | 0 => fun b M av lv C nx pc' lv' C' nx' k' n' hM ha h => by cases h
  | d + 1 => fun b M av lv C nx pc' lv' C' nx' k' n' hM ha h => by
    unfold cm_go at h
    rw [hM] at h
    dsimp only at h
    split at h
    · next S' hs =>
      obtain ⟨hb, he⟩ := cm_c_eq h
      rw [← he] at hs hb
      simp only [Bool.and_eq_true] at hb
      have hpc : pc' = M.2.2.1 := Nat.eq_of_beq_eq_true hb.1.1
      subst hpc
      obtain ⟨o1, o2⟩ := cm_mt_ok hM
      exact cm_met hmna (cm_go_ok hmna d) o1 o2 ha (by rw [cm_args_ln ha]; exact Nat.le_of_ble_eq_true hb.2.2.1) (segs := [(M.2.2.1, 2000, (M.2.2.1, lv', [], C', nx', k', n'))]) ⟨hs, Nat.le_of_ble_eq_true hb.2.2.2, rfl⟩ (Nat.le_of_ble_eq_true hb.1.2) (Nat.le_of_ble_eq_true hb.2.1)
    · cases h
def cm_dE : DecidableEq cm_E := inferInstanceAs (DecidableEq ((FieldType × Nat × List Value) ⊕ (Nat × List Value)))
def cm_dN : DecidableEq (Nat × cm_E) := haveI := cm_dE; inferInstanceAs (DecidableEq (Nat × cm_E))
def cm_dC : DecidableEq cm_C := haveI := cm_dN; inferInstanceAs (DecidableEq (List (Nat × cm_E)))
def cm_d1 : DecidableEq (cm_C × Nat × Nat × Nat) := haveI := cm_dC; inferInstanceAs (DecidableEq (cm_C × Nat × Nat × Nat))
def cm_d2 : DecidableEq (List Value × cm_C × Nat × Nat × Nat) := haveI := cm_d1; inferInstanceAs (DecidableEq (List Value × (cm_C × Nat × Nat × Nat)))
def cm_d3 : DecidableEq (cm_L × List Value × cm_C × Nat × Nat × Nat) := haveI := cm_d2; inferInstanceAs (DecidableEq (List (Nat × Value) × (List Value × cm_C × Nat × Nat × Nat)))
def cm_dS : DecidableEq cm_S := haveI := cm_d3; inferInstanceAs (DecidableEq (Nat × (cm_L × List Value × cm_C × Nat × Nat × Nat)))
def cm_beq (a : Option cm_S) (b : cm_S) : Bool := match a with
  | some x => @decide (x = b) (cm_dS x b)
  | none => false
theorem cm_beq_eq {a : Option cm_S} {b : cm_S} (h : cm_beq a b = true) : a = some b := by
  unfold cm_beq at h
  split at h
  · next x =>
    rw [@of_decide_eq_true _ (cm_dS x b) h]
  · cases h
