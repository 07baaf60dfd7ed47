def cm_N (U : State) : Prop := ∀ x ∈ cm_nw, va_Nw (.methodLinkNest x.1 x.2.1 x.2.2 "BrokenLoaves") U
/-- the world when a constructor is called -/
def cm_Pre (D : va_G) (cA : FieldType → ClassId) (wr : va_W) (A : Nat → Prop) (ad : Nat → Nat) (C : cm_C) (U : State) : Prop :=
  va_P D vwCl (wr ++ cm_w cA ad C) U.heap ∧ va_D A (wr ++ cm_w cA ad C) ∧ (∀ q, U.heap.size ≤ q → A q) ∧ va_K D vwCl (am_tys cA) U ∧ cm_X U ∧ cm_N U
def cm_Qv (D : va_G) (cA : FieldType → ClassId) (wr : va_W) (A : Nat → Prop) (ad : Nat → Nat) (nx : Nat) (C : cm_C) : Array Value → State → Outcome → State → Prop :=
  va_Qv (fun (_ : Unit) => True) (fun _ t => ∃ ad', cm_ag nx ad ad' ∧ va_P D vwCl (wr ++ cm_w cA ad' C) t.heap ∧ va_D A (wr ++ cm_w cA ad' C)) A
def cm_rm (d : Nat) (M : cm_M) : Room := { frames := d, cells := M.2.2.2.1, slots := M.2.2.2.2.1, locals := 64 * d }
def cm_wd (M : cm_M) : List Cond := ss_w M.1 M.2.1.2.1 M.2.1.2.2.1 none
def cm_Met (l : Launch) (D : va_G) (cA : FieldType → ClassId) (d : Nat) (M : cm_M) (av : List Value) (C C' : cm_C) (nx : Nat) : Prop := ∀ (wr : va_W) (A : Nat → Prop) (ad : Nat → Nat),
  Met l M.1 (cm_wd M) (cm_rm d M) (va_Pc (av.map (am_up ad)) (cm_Pre D cA wr A ad C)) (cm_Qv D cA wr A ad nx C') M.2.2.2.1 M.2.2.2.2.1 A
def cm_CallOk (l : Launch) (D : va_G) (cA : FieldType → ClassId) (d : Nat) (call : Nat → cm_S → Option cm_S) : Prop :=
  ∀ (b : Nat) (M : cm_M) (av : List Value) (lv : cm_L) (C : cm_C) (nx : Nat) (pc' : Nat) (lv' : cm_L) (C' : cm_C) (nx' k' n' : Nat), am_nth cm_mt b = some M → cm_args av = some lv → call b (0, lv, [], C, nx, 0, 0) = some (pc', lv', [], C', nx', k', n') → cm_Met l D cA d M av C C' nx
theorem cm_X.warm {s U : State} (hW : s.WarmedH U.vm) (h : cm_X s) : cm_X U := ⟨va_AO.moved hW.alike h.1, va_AO.moved hW.alike h.2.1, fun ci hci q hq => va_Nw.warmC hW (h.2.2.1 ci hci q hq), cm_AA.moved hW.alike h.2.2.2⟩
theorem cm_N.warm {s U : State} (hW : s.WarmedH U.vm) (h : cm_N s) : cm_N U := fun x hx => va_Nw.warmM hW (h x hx)
theorem cm_Pre.blind {D : va_G} {cA : FieldType → ClassId} {wr : va_W} {A : Nat → Prop} {ad : Nat → Nat} {C : cm_C} {av : List Value} : FrameBlind (va_Pc av (cm_Pre D cA wr A ad C)) := by
  intro a U g mk h
  obtain ⟨h0, hP, hD, hA, hK, hX, hN⟩ := h
  exact ⟨h0, hP, hD, hA, va_K.moved (u := U) (U := U.calling g mk a) (Vm.Alike.refl U.vm) hK, ⟨va_AO.moved (u := U) (U := U.calling g mk a) (Vm.Alike.refl U.vm) hX.1, va_AO.moved (u := U) (U := U.calling g mk a) (Vm.Alike.refl U.vm) hX.2.1, fun ci hci q hq => va_Nw.same (u := U) (U := U.calling g mk a) rfl rfl (hX.2.2.1 ci hci q hq), cm_AA.moved (u := U) (U := U.calling g mk a) (Vm.Alike.refl U.vm) hX.2.2.2⟩, fun x hx => va_Nw.same (u := U) (U := U.calling g mk a) rfl rfl (hN x hx)⟩
theorem cm_wd_good {b : Nat} {M : cm_M} (h : am_nth cm_mt b = some M) : GoodIn am_tb (cm_wd M) := ss_G0 (fun w hw => by
  rcases List.mem_cons.mp hw with rfl | hw
  · exact cm_code b M h
  · exact hw)
theorem cm_args_ref {av : List Value} {lv : cm_L} (h : cm_args av = some lv) : ∃ a as, av = .ref a :: as := by
  unfold cm_args at h
  split at h
  · exact ⟨_, _, rfl⟩
  · exact ⟨_, _, rfl⟩
  · exact ⟨_, _, rfl⟩
  · cases h
section
variable {D : va_G} {cA : FieldType → ClassId} {wr : va_W} {A : Nat → Prop} {M : cm_M} {p : Program} {l : Launch} {e : Env} {R : Room} {s : State} {m : MethodId} {args : Array Value} {below : List Frame} {meth : Method} {c : Code} {Z : State → Prop} {n0 : Nat} {ad0 : Nat → Nat} {d : Nat}
/-- after a call: the new world -/
theorem cm_after {H : Heap} {locs : List Loc} {ls : Array Slot} {ad : Nat → Nat} {pc : Nat} {lv : cm_L} {st0 rest : List Value} {C' : cm_C} {nx nx' k n mc ms : Nat} {aa : Array Value} (hn : n0 ≤ nx) (hag : cm_ag n0 ad0 ad) (hfr : cm_fresh nx lv rest [] = true) (hS : va_S A s.heap H locs) (hl : lv_has ls M.2.1.2.2.1 (cm_ul ad lv))
    (hr : va_Run p l e R s m args below meth c H locs k n mc ms (F0 m pc ls st0) (rest.map (am_up ad)) (cm_Qv D cA wr A ad nx C' aa) A) (K : cm_G D cA wr A M.2.1 p l e R s m args below meth c Z n0 ad0 (pc + 3, lv, rest, C', nx', k + mc, n + ms)) :
    W p l e R s m args below meth c H locs k n Z (F0 m pc ls st0) := by
  refine va_callv hr hS (fun q _ h => h) (fun q h => h) (fun u t H1 locs1 ht hvm hw hB hz1 hk1 hS1 => ?_)
  obtain ⟨ad', hag', hP', hD'⟩ := hB
  unfold cm_fresh at hfr
  rw [Bool.and_eq_true, Bool.and_eq_true] at hfr
  rw [ht] at hP'
  have h := K ad' H1 locs1 ls (fun i hi => by rw [hag' i (by omega)]; exact hag i hi) ⟨hP', hD', hS1, by rw [cm_ag_u hag' hfr.1]; exact hl⟩
  dsimp only at h
  rw [(cm_ag_l hag' hfr.2.1).1] at h
  exact h
set_option maxHeartbeats 4000000 in
theorem cm_lp_sound {call : Nat → cm_S → Option cm_S} (hcall : cm_CallOk l D cA d call) (hC : cm_Cx D cA A M.2.1 M.2.2.2.1 M.2.2.2.2.1 p R s m args meth c) (hOk : cm_okM M = true) (hN : cm_N s) (hRd : d + 1 ≤ R.frames ∧ 64 * (d + 1) ≤ R.locals)
    (hmna : ∀ (pc : Nat) (lv : cm_L) (st : List Value) (C : cm_C) (nx k n : Nat) (a b : Int32), M.1.cls = RX11 → decode M.2.1.2.1 pc = .ok (.multianewarray 78 2, 4) → cm_pos a 1000 = true → cm_pos b 1000 = true → cm_fresh nx lv st C = true → k + (1 + a.toNatClampNeg) ≤ M.2.2.2.1 → n + (a.toNatClampNeg + a.toNatClampNeg * b.toNatClampNeg) ≤ M.2.2.2.2.1 → n0 ≤ nx →
      cm_G D cA wr A M.2.1 p l e R s m args below meth c Z n0 ad0 (pc + 4, lv, .ref nx :: st, C ++ cm_mna nx a.toNatClampNeg b.toNatClampNeg, nx + 1 + a.toNatClampNeg, k + (1 + a.toNatClampNeg), n + (a.toNatClampNeg + a.toNatClampNeg * b.toNatClampNeg)) → cm_G D cA wr A M.2.1 p l e R s m args below meth c Z n0 ad0 (pc, lv, .int b :: .int a :: st, C, nx, k, n)) :
    ∀ (f : Nat) (S S1 : cm_S), cm_lp call M f S = some S1 → n0 ≤ S.2.2.2.2.1 → cm_G D cA wr A M.2.1 p l e R s m args below meth c Z n0 ad0 S1 → cm_G D cA wr A M.2.1 p l e R s m args below meth c Z n0 ad0 S := by
  obtain ⟨hx, hb, hml, hown, hts, hK, hA, hin, hX, hR⟩ := id hC
  unfold cm_okM at hOk
  simp only [Bool.and_eq_true, decide_eq_true_eq] at hOk
  obtain ⟨hT, hMc, hlk⟩ := hOk
  rw [List.all_eq_true] at hlk
  intro f
  induction f with
  | zero => intro S S1 h hn K; cases h; exact K
  | succ f ih =>
    intro S S1 h hn K
    obtain ⟨pc, lv, st, C, nx, k, n⟩ := S
    unfold cm_lp at h
    try dsimp only at h
    dsimp only at hn
    split at h
    · cases h
      exact K
    · split at h
      · -- invokespecial
        next j w hd =>
        split at h
        · next b hf =>
          split at h
          · next o st' =>
            split at h
            · next hw =>
              rw [Bool.and_eq_true] at hw
              rw [Nat.eq_of_beq_eq_true hw.1] at hd
              have K1 := ih _ _ h hn K
              intro ad H locs ls hag hI
              have h1 := hlk _ (cm_lf_mem _ _ _ hf)
              refine W.objInit hx hb hown (hts _ (by rw [← hMc]; exact cm_inb_tb h1)) (hts (.instanceMethod objectInit) (tb_in (by decide +kernel))) (hts (.code objectInit ⟨#[0xb1]⟩ 1 none) (tb_in (by decide +kernel))) rfl (by rw [hml]; exact hI.2.2.2.1) rfl hd (by omega) ?_ ?_
              · have : ((st'.map (am_up ad)).map fun v => v.category).sum ≤ 8 := by rw [am_cs_sum, am_cs_up]; exact Nat.le_of_ble_eq_true hw.2
                show 2 * 0 + _ + 12 ≤ _
                omega
              · exact K1 ad H locs ls hag hI
            · cases h
          · cases h
        · next kd b hk0 hf =>
          split at h
          · next M' hM' =>
            split at h
            · next as rest hpop =>
              split at h
              · next lv' hargs =>
                split at h
                · next pc2 lv2 C' nx' k2 n2 hcl =>
                  split at h
                  · next hw =>
                    simp only [Bool.and_eq_true, decide_eq_true_eq] at hw
                    obtain ⟨hw1, hkd, hcs, hnx, hfr, hk1, hk2⟩ := hw
                    rw [Nat.eq_of_beq_eq_true hw1] at hd
                    have K1 := ih _ _ h (Nat.le_trans hn (Nat.le_of_ble_eq_true hnx)) K
                    have h1 := hlk _ (cm_lf_mem _ _ _ hf)
                    have hMet := hcall b M' as lv' C nx _ _ C' nx' _ _ hM' hargs hcl
                    intro ad H locs ls hag hI
                    obtain ⟨hP, hD, hS, hl⟩ := hI
                    obtain ⟨o, as', rfl⟩ := cm_args_ref hargs
                    obtain ⟨hst, hlen⟩ := am_pop_stack (ad := ad) hpop
                    have hst2 : (st.map (am_up ad)) = (as'.map (am_up ad)).reverse ++ .ref (ad o) :: rest.map (am_up ad) := by rw [hst]; simp [am_up]
                    have hlen2 : (as'.map (am_up ad)).length = M'.2.2.2.2.2.1 := by simpa using hlen
                    have hpre : PreS s H (va_Pc ((Value.ref o :: as').map (am_up ad)) (cm_Pre D cA wr A ad C)) (.ref (ad o) :: as'.map (am_up ad)) := ⟨cm_Pre.blind, fun U hU hW => ⟨rfl, by rw [hU]; exact hP, hD, fun q hq => hA q (Nat.le_trans hS.1 (by rw [← hU]; exact hq)), va_K.moved hW.alike hK, cm_X.warm hW hX, cm_N.warm hW hN⟩⟩
                    have hsum : ((rest.map (am_up ad)).map fun v => v.category).sum ≤ 8 := by rw [am_cs_sum, am_cs_up]; exact Nat.le_of_ble_eq_true hcs
                    have hbud : k + M'.2.2.2.1 ≤ R.cells ∧ n + M'.2.2.2.2.1 ≤ R.slots := ⟨Nat.le_trans (Nat.le_of_ble_eq_true hk1) hR.1, Nat.le_trans (Nat.le_of_ble_eq_true hk2) hR.2⟩
                    rcases hkd with rfl | rfl
                    · simp only [cm_okK, hM', Bool.and_eq_true, decide_eq_true_eq] at h1
                      obtain ⟨i1, i2, i3, i4, i5, i6⟩ := h1
                      have hrm : (cm_rm d M').frames + 1 ≤ R.frames ∧ 8 + (M'.2.1.2.2.1 + 11) + (cm_rm d M').locals ≤ R.locals := ⟨hRd.1, by have := Nat.le_of_ble_eq_true i3; show 8 + (M'.2.1.2.2.1 + 11) + 64 * d ≤ _; omega⟩
                      refine cm_after hn hag hfr hS hl (va_runIN (As := as'.map (am_up ad)) (rest := rest.map (am_up ad)) (b := ad o) ⟨hx, hb, hml, hown, hts⟩ (hMet wr A ad) ⟨va_cnB M'.2.2.2.2.2.1 hts (cm_wd_good hM') rfl rfl rfl (by have := hN _ i4; rw [hMc] at this; exact this) (hts _ (cm_inb_tb i1)) i2 hrm, i5, hts _ (cm_inb_tb i6)⟩ hpre rfl hlen2 hl.1 hst2 (lv_room hsum) hd hbud) K1
                    · simp only [cm_okK, hM', Bool.and_eq_true, decide_eq_true_eq] at h1
                      obtain ⟨i1, i2, i3, i4, i5, i6⟩ := h1
                      have hrm : (cm_rm d M').frames + 1 ≤ R.frames ∧ 8 + (M'.2.1.2.2.1 + 11) + (cm_rm d M').locals ≤ R.locals := ⟨hRd.1, by have := Nat.le_of_ble_eq_true i3; show 8 + (M'.2.1.2.2.1 + 11) + 64 * d ≤ _; omega⟩
                      refine cm_after hn hag hfr hS hl (va_runI (As := as'.map (am_up ad)) (rest := rest.map (am_up ad)) (b := ad o) ⟨hx, hb, hml, hown, hts⟩ (hMet wr A ad) (cwI M'.2.2.2.2.2.1 hts (cm_wd_good hM') rfl rfl rfl (hts _ (cm_inb_tb i1)) (hts _ (by rw [← hMc]; exact cm_inb_tb i4)) (hts _ (cm_inb_tb i6)) i5 i2 hrm) hpre rfl hlen2 hl.1 hst2 (lv_room hsum) hd hbud) K1
                  · cases h
                · cases h
              · cases h
            · cases h
          · cases h
        · cases h
      · -- invokestatic
        next j w hd =>
        split at h
        · next kd b hf =>
          split at h
          · next M' hM' =>
            split at h
            · next as rest hpop =>
              split at h
              · next lv' hargs =>
                split at h
                · next pc2 lv2 C' nx' k2 n2 hcl =>
                  split at h
                  · next hw =>
                    simp only [Bool.and_eq_true] at hw
                    obtain ⟨hw1, hkd, hcs, hnx, hfr, hk1, hk2⟩ := hw
                    rw [Nat.eq_of_beq_eq_true hw1] at hd
                    have hkd := Nat.eq_of_beq_eq_true hkd
                    subst hkd
                    have K1 := ih _ _ h (Nat.le_trans hn (Nat.le_of_ble_eq_true hnx)) K
                    have h1 := hlk _ (cm_lf_mem _ _ _ hf)
                    have hMet := hcall b M' as lv' C nx _ _ C' nx' _ _ hM' hargs hcl
                    intro ad H locs ls hag hI
                    obtain ⟨hP, hD, hS, hl⟩ := hI
                    obtain ⟨hst, hlen⟩ := am_pop_stack (ad := ad) hpop
                    have hpre : PreS s H (va_Pc (as.map (am_up ad)) (cm_Pre D cA wr A ad C)) (as.map (am_up ad)) := ⟨cm_Pre.blind, fun U hU hW => ⟨rfl, by rw [hU]; exact hP, hD, fun q hq => hA q (Nat.le_trans hS.1 (by rw [← hU]; exact hq)), va_K.moved hW.alike hK, cm_X.warm hW hX, cm_N.warm hW hN⟩⟩
                    have hsum : ((rest.map (am_up ad)).map fun v => v.category).sum ≤ 8 := by rw [am_cs_sum, am_cs_up]; exact Nat.le_of_ble_eq_true hcs
                    have hbud : k + M'.2.2.2.1 ≤ R.cells ∧ n + M'.2.2.2.2.1 ≤ R.slots := ⟨Nat.le_trans (Nat.le_of_ble_eq_true hk1) hR.1, Nat.le_trans (Nat.le_of_ble_eq_true hk2) hR.2⟩
                    simp only [cm_okK, hM', Bool.and_eq_true, decide_eq_true_eq] at h1
                    obtain ⟨i1, i2, i3, i4, i5⟩ := h1
                    have hrm : (cm_rm d M').frames + 1 ≤ R.frames ∧ 8 + (M'.2.1.2.2.1 + 11) + (cm_rm d M').locals ≤ R.locals := ⟨hRd.1, by have := Nat.le_of_ble_eq_true i3; show 8 + (M'.2.1.2.2.1 + 11) + 64 * d ≤ _; omega⟩
                    have hg : GoodIn am_tb (va_wsS M.2.1.1 j M'.1 (cm_wd M')) := ss_G0 (ss_Sw (by rw [← hMc]; exact cm_inb_tb i4) (cm_inb_tb i5) (cm_inb_tb i1) (cm_code b M' hM'))
                    exact cm_after hn hag hfr hS hl (va_runS (As := as.map (am_up ad)) (rest := rest.map (am_up ad)) ⟨hx, hb, hml, hown, hts⟩ (hMet wr A ad) (va_cwS M'.2.2.2.2.2.1 hts hg rfl rfl rfl i2 hrm) hpre rfl hlen hl.1 hst (lv_room hsum) hd hbud) K1
                  · cases h
                · cases h
              · cases h
            · cases h
          · cases h
        · cases h
      · -- multianewarray
        next j dm w hd =>
        split at h
        · next b a st' =>
          split at h
          · next hw =>
            simp only [Bool.and_eq_true, decide_eq_true_eq] at hw
            obtain ⟨hw1, hw2, hw3, hw4, hw5, hw6, hw7, hw8, hw9⟩ := hw
            rw [Nat.eq_of_beq_eq_true hw1, Nat.eq_of_beq_eq_true hw2, Nat.eq_of_beq_eq_true hw3] at hd
            exact hmna pc lv st' C nx k n a b hw6 hd hw4 hw5 hw7 (Nat.le_of_ble_eq_true hw8) (Nat.le_of_ble_eq_true hw9) hn (ih _ _ h (by dsimp only; omega) K)
          · cases h
        · cases h
      · -- a step
        next i w hns hn2 hn3 hd =>
        split at h
        · next S' hex =>
          split at h
          · next hnx =>
            exact cm_sound hC hT (by unfold cm_step; dsimp only; rw [hd]; exact hex) hn (ih _ _ h (Nat.le_trans hn (Nat.le_of_ble_eq_true hnx)) K)
          · cases h
        · cases h
      · cases h
end
