/-- what is checked of the tables -/
def am_Ok : Prop := ∀ (mi : Nat) (M : am_M), am_meth mi = some M → am_okM mi M ∧ (M.1.cls ≠ "BrokenLoavesLaw" → Cond.code M.1 M.2.1 M.2.2.1 M.2.2.2.1 ∈ am_tb)
theorem am_okd_use {M : am_M} {np : Nat} (h : am_okd M np = true) : (M.1.cls ≠ "java/lang/invoke/MethodHandle" ∧ M.1.cls ≠ "java/lang/invoke/VarHandle" ∧ (parseMethodDescriptor M.1.desc).map (fun d => d.parameters.length) = some np) ∧ M.2.2.1 ≤ 45 ∧ M.1.cls ≠ "BrokenLoavesLaw" := by
  simp only [am_okd, Bool.and_eq_true, decide_eq_true_eq] at h
  exact ⟨⟨h.1.1.1.1, h.1.1.1.2, h.1.1.2⟩, h.1.2, h.2⟩
theorem am_wd_good {M : am_M} (h : Cond.code M.1 M.2.1 M.2.2.1 M.2.2.2.1 ∈ am_tb) : GoodIn am_tb (am_wd M) := by
  intro w hw
  rcases List.mem_cons.mp hw with e | hw
  · subst e; exact ⟨h, am_good _ h⟩
  · exact ⟨hw, am_good _ hw⟩
theorem am_room {d : Nat} {R : Room} {M : am_M} (h : d + 1 ≤ R.frames ∧ 64 * (d + 1) ≤ R.locals) (hm : M.2.2.1 ≤ 45) : (am_rm d).frames + 1 ≤ R.frames ∧ 8 + (M.2.2.1 + 11) + (am_rm d).locals ≤ R.locals := by
  refine ⟨h.1, ?_⟩
  show 8 + (M.2.2.1 + 11) + 64 * d ≤ R.locals
  omega
theorem am_pop_spec : ∀ (np : Nat) (st acc as rest : List Value), am_pop np st acc = some (as, rest) → ∃ bs, as = bs ++ acc ∧ st = bs.reverse ++ rest ∧ bs.length = np
  | 0, st, acc, as, rest, h => by
    simp only [am_pop, Option.some.injEq, Prod.mk.injEq] at h
    exact ⟨[], h.1.symm, by simpa using h.2, rfl⟩
  | n + 1, [], acc, as, rest, h => by simp [am_pop] at h
  | n + 1, v :: st, acc, as, rest, h => by
    obtain ⟨bs, h1, h2, h3⟩ := am_pop_spec n st (v :: acc) as rest h
    exact ⟨bs ++ [v], by simp [h1], by simp [h2], by simp [h3]⟩
theorem am_pop_stack {ad : Nat → Nat} {np : Nat} {st as rest : List Value} (h : am_pop np st [] = some (as, rest)) : st.map (am_up ad) = (as.map (am_up ad)).reverse ++ rest.map (am_up ad) ∧ (as.map (am_up ad)).length = np := by
  obtain ⟨bs, h1, h2, h3⟩ := am_pop_spec np st [] as rest h
  rw [List.append_nil] at h1
  subst h1
  rw [h2]
  exact ⟨by simp, by simpa using h3⟩
section
variable {l : Launch} {D : va_G} {cA : FieldType → ClassId} {ad : Nat → Nat} {L : Nat} {xs : Nat → Int32}
variable {p : Program} {e : Env} {R : Room} {s : State} {m : MethodId} {args : Array Value} {below : List Frame} {meth : Method} {c : Code} {H : Heap} {locs : List Loc} {cells slots : Nat} {Z : State → Prop} {pc : Nat} {ls : Array Slot}
variable {M : am_M} {d mi n a b : Nat} {lv : List (Option Value)} {st : List Value} {I : am_I} {Q : am_Q}
/-- what a call gives: the callee's contract, and its room -/
theorem am_call_use (hOk : am_Ok) {as rest : List Value} (h : am_call am_meth (am_Jm l D cA ad L xs) (am_Jm l D cA ad L xs) b as rest d mi n lv I Q) (np : Nat) (hnp : ∀ M', am_meth b = some M' → am_okd M' np = true) :
    ∃ (d' : Nat) (M' : am_M) (Q' : am_Q), d = d' + 1 ∧ am_meth b = some M' ∧ am_okd M' np = true ∧ Cond.code M'.1 M'.2.1 M'.2.2.1 M'.2.2.2.1 ∈ am_tb ∧ ((rest.map (am_up ad)).map fun v => v.category).sum ≤ 8 ∧
      Met l M'.1 (am_wd M') (am_rm d') (va_Pc (as.map (am_up ad)) (am_Wd D cA ad L xs I)) (am_Qc D cA ad Q') 0 0 (am_A ad) ∧
      ∀ r I', Q' r I' → am_Jm l D cA ad L xs d mi n lv (r.toList ++ rest) I' Q := by
  unfold am_call at h
  cases d with
  | zero => exact h.elim
  | succ d' =>
    dsimp only at h
    cases hM : am_meth b with
    | none => rw [hM] at h; exact h.elim
    | some M' =>
      rw [hM] at h
      dsimp only at h
      cases hb : (Nat.ble (am_cs rest) 8 && (Nat.ble (am_cs as) M'.2.2.1 && am_argok b as)) with
      | false => rw [hb] at h; exact h.elim
      | true =>
        rw [hb] at h
        dsimp only at h
        simp only [Bool.and_eq_true, Nat.ble_eq] at hb
        have hd := hnp M' hM
        obtain ⟨hok, hcw⟩ := hOk b M' hM
        refine ⟨d', M', _, rfl, rfl, hd, hcw (am_okd_use hd).2.2, ?_, am_met hM hok.2.1 hb.2.1 hb.2.2 h, fun r I' q => q⟩
        rw [am_cs_sum, am_cs_up]
        exact hb.1
theorem am_toList (r : Option Value) (rest : List Value) : (r.toList ++ rest).map (am_up ad) = (r.map (am_up ad)).toList ++ rest.map (am_up ad) := by
  cases r <;> simp
theorem am_pre (hC : am_Cx D cA ad L xs M d p R s m args c cells slots) (hP : va_P D vwCl (am_ws cA ad I) H) (hS : va_S (am_A ad) s.heap H locs) {as : List Value} : PreS s H (va_Pc (as.map (am_up ad)) (am_Wd D cA ad L xs I)) (as.map (am_up ad)) := by
  obtain ⟨-, -, -, -, -, hK, -, -, hX⟩ := hC
  exact ⟨am_Wd_blind, fun U hU hW => ⟨rfl, am_Wd_at hP hS hK hX hU hW⟩⟩
theorem am_preV (hC : am_Cx D cA ad L xs M d p R s m args c cells slots) (hP : va_P D vwCl (am_ws cA ad I) H) (hS : va_S (am_A ad) s.heap H locs) {as : List Value} {o ci : Nat} (ho : am_G o = some (.inl ci)) : PreV s H (am_cname ci) (ad o) (va_Pc ((Value.ref o :: as).map (am_up ad)) (am_Wd D cA ad L xs I)) (as.map (am_up ad)) := by
  obtain ⟨-, -, -, -, -, hK, -, -, hX⟩ := hC
  refine ⟨am_Wd_blind, ?_, fun U hU hW => ⟨rfl, am_Wd_at hP hS hK hX hU hW⟩⟩
  have hlt := am_G_ci ho
  obtain ⟨q, hq⟩ : ∃ q, vwCl[ci]? = some q := ⟨vwCl[ci], List.getElem?_eq_getElem (by simpa using hlt)⟩
  have hn : am_cname ci = q.1 := by unfold am_cname; rw [hq]
  rw [hn]
  exact va_recv hK hP hq (am_cell_obj ho)
end
