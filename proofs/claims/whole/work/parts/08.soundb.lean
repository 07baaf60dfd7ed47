theorem am_Wd_at {D : va_G} {cA : FieldType → ClassId} {ad : Nat → Nat} {L : Nat} {xs : Nat → Int32} {I : am_I} {s U : State} {H : Heap} {locs : List Loc} (hP : va_P D vwCl (am_ws cA ad I) H) (hS : va_S (am_A ad) s.heap H locs) (hK : va_K D vwCl (am_tys cA) s) (hX : am_X ad L xs s) (hU : U.heap = H) (hW : s.WarmedH U.vm) : am_Wd D cA ad L xs I U := by
  obtain ⟨⟨hx, hnA⟩, ⟨hv, hz, hz2⟩, hr, hn⟩ := hX
  refine ⟨by rw [hU]; exact hP, va_K.moved hW.alike hK, ⟨?_, hnA⟩, ?_, fun w hw => vk_R.warm hW (hr w hw), fun q hq => va_Nw.warmM hW (hn q hq)⟩
  · have hb : ad am_scr < s.heap.size := by
      obtain ⟨scr, h1, -⟩ := hx
      exact (Array.getElem?_eq_some_iff.mp h1).1
    exact va_X.moved hW.alike (hx.kept (by rw [hU]; exact hS.2.1 _ hb hnA))
  · exact ⟨vk_S.moved hW.alike (hv.kept (fun a h1 h2 => by rw [hU]; exact hS.2.1 a h1 h2)), va_Z.moved hW.alike (hz.kept (fun a h1 h2 => by rw [hU]; exact hS.2.1 a h1 h2)), va_Zq.moved hW.alike (hz2.kept (fun a h1 h2 => by rw [hU]; exact hS.2.1 a h1 h2))⟩
theorem am_Wd_blind {D : va_G} {cA : FieldType → ClassId} {ad : Nat → Nat} {L : Nat} {xs : Nat → Int32} {I : am_I} {av : List Value} : FrameBlind (va_Pc av (am_Wd D cA ad L xs I)) := by
  intro a U g mk h
  obtain ⟨h0, hP, hK, ⟨hx, hnA⟩, ⟨hv, hz, hz2⟩, hr, hn⟩ := h
  exact ⟨h0, hP, va_K.moved (u := U) (U := U.calling g mk a) (Vm.Alike.refl U.vm) hK, ⟨va_X.moved (u := U) (U := U.calling g mk a) (Vm.Alike.refl U.vm) hx, hnA⟩, ⟨vk_S.moved (u := U) (U := U.calling g mk a) (Vm.Alike.refl U.vm) hv, va_Z.moved (u := U) (U := U.calling g mk a) (Vm.Alike.refl U.vm) hz, va_Zq.moved (u := U) (U := U.calling g mk a) (Vm.Alike.refl U.vm) hz2⟩, fun w hw => vk_R.same (u := U) rfl (hr w hw), fun q hq => va_Nw.same (u := U) (U := U.calling g mk a) rfl rfl (hn q hq)⟩
theorem am_nth_pad : ∀ (n : Nat) (l : List (Option Value)) (i : Nat) (v : Value), am_nth (am_pad n l) i = some (some v) → am_nth l i = some (some v)
  | 0, _, _, _, h => by simp [am_pad, am_nth] at h
  | n + 1, [], 0, v, h => by simp [am_pad, am_nth] at h
  | n + 1, [], i + 1, v, h => by
    have := am_nth_pad n [] i v h
    simp [am_nth] at this
  | n + 1, x :: l, 0, v, h => h
  | n + 1, x :: l, i + 1, v, h => am_nth_pad n l i v h
theorem am_exp_args (ad : Nat → Nat) : ∀ (l : List Value), (∀ w ∈ l, ∀ x, w ≠ .double x) → ∀ (k i : Nat) (v : Value), am_nth (am_exp l) i = some (some v) → (k + i, am_up ad v) ∈ lv_args k (l.map (am_up ad))
  | [], _, _, _, _, h => by simp [am_exp, am_nth] at h
  | w :: l, hd, k, i, v, h => by
    have hd' : ∀ w ∈ l, ∀ x, w ≠ .double x := fun w hw => hd w (List.mem_cons_of_mem _ hw)
    by_cases hc : w.category = 2
    · have key : ∀ (e : am_exp (w :: l) = some w :: none :: am_exp l), (k + i, am_up ad v) ∈ lv_args k ((w :: l).map (am_up ad)) := by
        intro e
        rw [e] at h
        simp only [List.map_cons, lv_args]
        rw [if_pos (by rw [am_up_cat]; exact hc)]
        match i, h with
        | 0, h =>
          simp only [am_nth, Option.some.injEq] at h
          subst h
          exact List.mem_cons_self
        | 1, h => simp [am_nth] at h
        | i + 2, h =>
          have := am_exp_args ad l hd' (k + 2) i v h
          rw [show k + (i + 2) = k + 2 + i by omega]
          exact List.mem_cons_of_mem _ this
      cases w with
      | long x => exact key rfl
      | double x => exact absurd rfl (hd _ List.mem_cons_self x)
      | _ => simp [Value.category] at hc
    · have key : ∀ (e : am_exp (w :: l) = some w :: am_exp l), (k + i, am_up ad v) ∈ lv_args k ((w :: l).map (am_up ad)) := by
        intro e
        rw [e] at h
        simp only [List.map_cons, lv_args]
        rw [if_neg (by rw [am_up_cat]; exact hc)]
        match i, h with
        | 0, h =>
          simp only [am_nth, Option.some.injEq] at h
          subst h
          exact List.mem_cons_self
        | i + 1, h =>
          have := am_exp_args ad l hd' (k + 1) i v h
          rw [show k + (i + 1) = k + 1 + i by omega]
          exact List.mem_cons_of_mem _ this
      cases w with
      | long x => simp [Value.category] at hc
      | double x => simp [Value.category] at hc
      | _ => exact key rfl
theorem am_nol_mem : ∀ (l : List Value), am_nol l = true → ∀ w ∈ l, w.category = 1
  | [], _, w, hw => by simp at hw
  | x :: l, h, w, hw => by
    cases x with
    | long y => simp [am_nol] at h
    | double y => simp [am_nol] at h
    | _ =>
      rcases List.mem_cons.mp hw with e | hw
      · subst e; rfl
      · exact am_nol_mem l h w hw
theorem am_exp_mem : ∀ (l : List Value) (i : Nat) (v : Value), am_nth (am_exp l) i = some (some v) → v ∈ l
  | [], _, _, h => by simp [am_exp, am_nth] at h
  | w :: l, i, v, h => by
    have key1 : am_exp (w :: l) = some w :: none :: am_exp l → v ∈ w :: l := by
      intro e
      rw [e] at h
      match i, h with
      | 0, h =>
        simp only [am_nth, Option.some.injEq] at h
        subst h
        exact List.mem_cons_self
      | 1, h => simp [am_nth] at h
      | i + 2, h => exact List.mem_cons_of_mem _ (am_exp_mem l i v h)
    have key2 : am_exp (w :: l) = some w :: am_exp l → v ∈ w :: l := by
      intro e
      rw [e] at h
      match i, h with
      | 0, h =>
        simp only [am_nth, Option.some.injEq] at h
        subst h
        exact List.mem_cons_self
      | i + 1, h => exact List.mem_cons_of_mem _ (am_exp_mem l i v h)
    cases w with
    | long x => exact key1 rfl
    | _ => exact key2 rfl
theorem am_argok_use {b : Nat} {args : List Value} (h : am_argok b args = true) : (∀ w ∈ args, ∀ x, w ≠ .double x) ∧ ∀ i v, am_nth (am_exp args) i = some (some v) → v.category = 2 → i = 1 ∧ am_lg b = true := by
  unfold am_argok at h
  split at h
  · refine ⟨fun w hw x e => by subst e; simp at hw, fun i v hi hc => ?_⟩
    match i, hi with
    | 0, hi =>
      simp only [am_exp, am_nth, Option.some.injEq] at hi
      subst hi
      simp [Value.category] at hc
    | 1, hi => exact ⟨rfl, h⟩
    | 2, hi => simp [am_exp, am_nth] at hi
    | 3, hi =>
      simp only [am_exp, am_nth, Option.some.injEq] at hi
      subst hi
      simp [Value.category] at hc
    | i + 4, hi => simp [am_exp, am_nth] at hi
  · refine ⟨fun w hw x e => ?_, fun i v hi hc => ?_⟩
    · have := am_nol_mem _ h w hw
      subst e
      simp [Value.category] at this
    · have := am_nol_mem _ h v (am_exp_mem _ i v hi)
      omega
theorem am_cs_sum : ∀ (l : List Value), (l.map fun v => v.category).sum = am_cs l
  | [] => rfl
  | v :: l => by simp [am_cs, am_cs_sum l]
theorem am_cs_up (ad : Nat → Nat) : ∀ (l : List Value), am_cs (l.map (am_up ad)) = am_cs l
  | [] => rfl
  | v :: l => by simp [am_cs, am_cs_up ad l, am_up_cat]
theorem am_sl_len : ∀ (l : List Value), (lg_sl l).length = am_cs l
  | [] => rfl
  | v :: l => by
    have := am_sl_len l
    unfold lg_sl at this ⊢
    rw [List.flatMap_cons, List.length_append, this]
    show _ = v.category + am_cs l
    cases v <;> rfl
/-- a callee's contract out of the judgement -/
theorem am_met {l : Launch} {D : va_G} {cA : FieldType → ClassId} {ad : Nat → Nat} {L : Nat} {xs : Nat → Int32} {d b : Nat} {M : am_M} {av : List Value} {I : am_I} {Q : am_Q} (hM : am_meth b = some M) (hpl : plainName M.1.cls = true)
    (hcs : am_cs av ≤ M.2.2.1) (hav : am_argok b av = true) (h : am_Jm l D cA ad L xs d b 0 (am_pad M.2.2.1 (am_exp av)) [] I Q) :
    Met l M.1 (am_wd M) (am_rm d) (va_Pc (av.map (am_up ad)) (am_Wd D cA ad L xs I)) (am_Qc D cA ad Q) 0 0 (am_A ad) := by
  refine Met.ofW (cc := M.2.1) (maxL := M.2.2.1) (ret := M.2.2.2.1) hpl rfl ?_
  intro p e s m args below meth c s₁ B hml hv
  obtain ⟨rfl, hP, hK, hX⟩ := hv
  have hts0 := atoms_spec (ws := am_wd M) B.pre
  have hts : ∀ w ∈ am_tb, w.before (av.map (am_up ad)).toArray s = true := fun w hw => hts0 w (List.mem_cons_of_mem _ hw)
  have hown : s.vm.findClass M.1.cls = some m.cls := findClass_of_methodNamed B.named
  have hlocks := B.notSynchronized
  have hlen : (lg_sl (av.map (am_up ad))).length ≤ M.2.2.1 := by rw [am_sl_len, am_cs_up]; exact hcs
  have hl := lv_entry (av.map (am_up ad)) (n := M.2.2.1) hlen
  rw [lg_entry_eq]
  generalize (lg_sl (av.map (am_up ad)) ++ List.replicate (M.2.2.1 - (lg_sl (av.map (am_up ad))).length) Slot.unset).toArray = ls at hl ⊢
  obtain ⟨hnd, hlg⟩ := am_argok_use hav
  have hls : am_ls ad M b ls (am_pad M.2.2.1 (am_exp av)) := by
    refine ⟨hl.1, hl.2.1, fun i v hi => ?_, fun i v hi hc => hlg i v (am_nth_pad _ _ i v hi) hc⟩
    have h1 := am_exp_args ad av hnd 0 i v (am_nth_pad _ _ i v hi)
    rw [Nat.zero_add] at h1
    exact hl.2.2 _ h1
  refine h M hM p e (am_rm d) s m _ below meth c s.heap [] 0 0 ls _ ⟨B.exec, B.bytes, hml, hown, hts, hK, ⟨Nat.le_refl _, Nat.le_refl _⟩, ⟨Nat.le_refl _, Nat.le_refl _⟩, hX⟩ hP va_S.rf hls ?_
  intro r I' H' locs' ls' pc' hq hP' hS' hrt
  have hr := B.returns
  have hb := B.bytes
  have hx := B.exec
  cases r with
  | none => exact W.vret hx hb (hr.trans hrt.2) (fun t ht hW => ⟨⟨none, I', rfl, hq, by rw [ht]; exact hP'⟩, hS'.F ht⟩) hS'.2.2 hrt.1
  | some v =>
    cases v with
    | int v =>
      rcases hrt with ⟨hd, hrt | ⟨hrt, hv⟩⟩
      · exact W.iret hx hb (hr.trans hrt) (fun t ht hW => ⟨⟨some (.int v), I', rfl, hq, by rw [ht]; exact hP'⟩, hS'.F ht⟩) hS'.2.2 hd
      · exact W.zret hx hb (hr.trans hrt) (by rcases hv with rfl | rfl <;> rfl) (fun t ht hW => ⟨⟨some (.int v), I', rfl, hq, by rw [ht]; exact hP'⟩, hS'.F ht⟩) hS'.2.2 hd
    | ref o =>
      obtain ⟨hd, hrt⟩ := hrt
      obtain ⟨rt, hrt, hk⟩ : ∃ rt, M.2.2.2.1 = some rt ∧ ((∃ n, rt = .object n) ∨ ∃ t, rt = .array t) := by
        rcases hrt with ⟨n, e⟩ | ⟨t, e⟩
        · exact ⟨_, e, Or.inl ⟨n, rfl⟩⟩
        · exact ⟨_, e, Or.inr ⟨t, rfl⟩⟩
      exact W.aret hx hb (hr.trans hrt) hk (Or.inr ⟨ad o, rfl⟩) (fun t ht hW => ⟨⟨some (.ref o), I', rfl, hq, by rw [ht]; exact hP'⟩, hS'.F ht⟩) hS'.2.2 hd
    | _ => exact hrt.elim
theorem am_cont {l : Launch} {D : va_G} {cA : FieldType → ClassId} {ad : Nat → Nat} {p : Program} {e : Env} {R : Room} {s : State} {m : MethodId} {args : Array Value} {below : List Frame} {meth : Method} {c : Code} {H : Heap} {locs : List Loc} {cells slots : Nat} {Z : State → Prop} {pc : Nat} {ls : Array Slot} {st0 rest : List Value} {aa : Array Value} {Q : am_Q}
    (hr : va_Run p l e R s m args below meth c H locs cells slots 0 0 (F0 m pc ls st0) rest (am_Qc D cA ad Q aa) (am_A ad)) (hS : va_S (am_A ad) s.heap H locs)
    (kk : ∀ (r : Option Value) (I' : am_I) (H1 : Heap) (locs1 : List Loc), Q r I' → va_P D vwCl (am_ws cA ad I') H1 → va_S (am_A ad) s.heap H1 locs1 → W p l e R s m args below meth c H1 locs1 cells slots Z (F0 m (pc + 3) ls ((r.map (am_up ad)).toList ++ rest))) : W p l e R s m args below meth c H locs cells slots Z (F0 m pc ls st0) := by
  intro T hT X
  obtain ⟨v, st₀, t, T', L, h0, X', hL, e1, e2, ⟨⟨r, I', hv, hq, hp⟩, hz, hk⟩, st⟩ := hr T hT X
  cases hv
  rw [h0] at hz hk
  obtain ⟨t2, a1, b1⟩ := kk r I' T'.heap (locs ++ L) hq (by rw [e1]; exact hp)
    ⟨Nat.le_trans hS.1 (by rw [e1]; exact hz), fun q h1 h2 => by rw [e1, hk q (Nat.lt_of_lt_of_le h1 hS.1) h2]; exact hS.2.1 q h1 h2, fun q hq => by
      rcases List.mem_append.mp hq with h | h
      · exact hS.2.2 q h
      · exact hL q h⟩ T' rfl X'
  exact ⟨t2, st t2 a1, b1⟩
